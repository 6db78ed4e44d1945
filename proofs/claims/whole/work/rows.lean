section
-- ===== PART A: goes FIRST, ahead of the names: the tables' words, and 'selects' of the private methods out of them =====
/-- a private method of a class that the tables say can be made, by its rows of tables_1 -/
def lw_okq (q : MethodName × Nat) : Prop := (q.1.cls ≠ "java/lang/invoke/MethodHandle" ∧ q.1.cls ≠ "java/lang/invoke/VarHandle") ∧ Cond.instantiable q.1.cls q.2 ∈ tables_1 ∧ Cond.privateMethod q.1 ∈ tables_1 ∧ Cond.instanceMethod q.1 ∈ tables_1
theorem lw_p0 : lw_okq (⟨"FederationWire", "houseWire", "(I)LFederationWire$Wire;"⟩, 13) := ⟨⟨by decide +kernel, by decide +kernel⟩, List.mem_of_getElem? (i := 11) (by decide +kernel), List.mem_of_getElem? (i := 206) (by decide +kernel), List.mem_of_getElem? (i := 207) (by decide +kernel)⟩
theorem lw_p1 : lw_okq (⟨"FederationWire", "wireAt", "(I)LFederationWire$Wire;"⟩, 13) := ⟨⟨by decide +kernel, by decide +kernel⟩, List.mem_of_getElem? (i := 11) (by decide +kernel), List.mem_of_getElem? (i := 210) (by decide +kernel), List.mem_of_getElem? (i := 211) (by decide +kernel)⟩
theorem lw_p2 : lw_okq (⟨"FederationWire", "requestAt", "(I)LFederationWire$Request;"⟩, 13) := ⟨⟨by decide +kernel, by decide +kernel⟩, List.mem_of_getElem? (i := 11) (by decide +kernel), List.mem_of_getElem? (i := 214) (by decide +kernel), List.mem_of_getElem? (i := 215) (by decide +kernel)⟩
theorem lw_p3 : lw_okq (⟨"FederationWire", "sendFirst", "(LFederationWire$Request;LFederationWire$Wire;)Z"⟩, 13) := ⟨⟨by decide +kernel, by decide +kernel⟩, List.mem_of_getElem? (i := 11) (by decide +kernel), List.mem_of_getElem? (i := 218) (by decide +kernel), List.mem_of_getElem? (i := 219) (by decide +kernel)⟩
theorem lw_p4 : lw_okq (⟨"FederationWire", "send", "(LFederationWire$Frame;LFederationWire$Wire;)Z"⟩, 13) := ⟨⟨by decide +kernel, by decide +kernel⟩, List.mem_of_getElem? (i := 11) (by decide +kernel), List.mem_of_getElem? (i := 222) (by decide +kernel), List.mem_of_getElem? (i := 223) (by decide +kernel)⟩
theorem lw_p5 : lw_okq (⟨"FederationWire$Wire", "push", "(I)V"⟩, 7) := ⟨⟨by decide +kernel, by decide +kernel⟩, List.mem_of_getElem? (i := 127) (by decide +kernel), List.mem_of_getElem? (i := 230) (by decide +kernel), List.mem_of_getElem? (i := 231) (by decide +kernel)⟩
theorem lw_p6 : lw_okq (⟨"FederationWire$Request", "addKey", "(I)V"⟩, 16) := ⟨⟨by decide +kernel, by decide +kernel⟩, List.mem_of_getElem? (i := 272) (by decide +kernel), List.mem_of_getElem? (i := 292) (by decide +kernel), List.mem_of_getElem? (i := 293) (by decide +kernel)⟩
theorem lw_p7 : lw_okq (⟨"FederationWire$Request", "nextStep", "(I)V"⟩, 16) := ⟨⟨by decide +kernel, by decide +kernel⟩, List.mem_of_getElem? (i := 272) (by decide +kernel), List.mem_of_getElem? (i := 366) (by decide +kernel), List.mem_of_getElem? (i := 367) (by decide +kernel)⟩
theorem lw_p8 : lw_okq (⟨"FederationWire", "take", "(ILFederationWire$Wire;I)I"⟩, 13) := ⟨⟨by decide +kernel, by decide +kernel⟩, List.mem_of_getElem? (i := 11) (by decide +kernel), List.mem_of_getElem? (i := 385) (by decide +kernel), List.mem_of_getElem? (i := 386) (by decide +kernel)⟩
theorem lw_p9 : lw_okq (⟨"FederationWire$Wire", "suits", "(I)Z"⟩, 7) := ⟨⟨by decide +kernel, by decide +kernel⟩, List.mem_of_getElem? (i := 127) (by decide +kernel), List.mem_of_getElem? (i := 393) (by decide +kernel), List.mem_of_getElem? (i := 394) (by decide +kernel)⟩
theorem lw_p10 : lw_okq (⟨"FederationWire$Wire", "lengthSuits", "(I)Z"⟩, 7) := ⟨⟨by decide +kernel, by decide +kernel⟩, List.mem_of_getElem? (i := 127) (by decide +kernel), List.mem_of_getElem? (i := 397) (by decide +kernel), List.mem_of_getElem? (i := 398) (by decide +kernel)⟩
theorem lw_p11 : lw_okq (⟨"FederationWire$Wire", "keep", "(I)V"⟩, 7) := ⟨⟨by decide +kernel, by decide +kernel⟩, List.mem_of_getElem? (i := 127) (by decide +kernel), List.mem_of_getElem? (i := 401) (by decide +kernel), List.mem_of_getElem? (i := 402) (by decide +kernel)⟩
theorem lw_p12 : lw_okq (⟨"FederationWire", "serve", "(LFederationWire$Frame;LFederationWire$Wire;)Z"⟩, 13) := ⟨⟨by decide +kernel, by decide +kernel⟩, List.mem_of_getElem? (i := 11) (by decide +kernel), List.mem_of_getElem? (i := 407) (by decide +kernel), List.mem_of_getElem? (i := 408) (by decide +kernel)⟩
theorem lw_p13 : lw_okq (⟨"FederationWire$ServingEnd", "placeOf", "(I)I"⟩, 5) := ⟨⟨by decide +kernel, by decide +kernel⟩, List.mem_of_getElem? (i := 46) (by decide +kernel), List.mem_of_getElem? (i := 415) (by decide +kernel), List.mem_of_getElem? (i := 416) (by decide +kernel)⟩
theorem lw_p14 : lw_okq (⟨"FederationWire$ServingEnd", "memoryAt", "(I)LFederationWire$Memory;"⟩, 5) := ⟨⟨by decide +kernel, by decide +kernel⟩, List.mem_of_getElem? (i := 46) (by decide +kernel), List.mem_of_getElem? (i := 419) (by decide +kernel), List.mem_of_getElem? (i := 420) (by decide +kernel)⟩
theorem lw_p15 : lw_okq (⟨"FederationWire$ServingEnd", "memoryFor", "(I)LFederationWire$Memory;"⟩, 5) := ⟨⟨by decide +kernel, by decide +kernel⟩, List.mem_of_getElem? (i := 46) (by decide +kernel), List.mem_of_getElem? (i := 424) (by decide +kernel), List.mem_of_getElem? (i := 425) (by decide +kernel)⟩
def lw_privs_1 : List (MethodName × Nat) := [(⟨"FederationWire", "houseWire", "(I)LFederationWire$Wire;"⟩, 13), (⟨"FederationWire", "wireAt", "(I)LFederationWire$Wire;"⟩, 13), (⟨"FederationWire", "requestAt", "(I)LFederationWire$Request;"⟩, 13), (⟨"FederationWire", "sendFirst", "(LFederationWire$Request;LFederationWire$Wire;)Z"⟩, 13), (⟨"FederationWire", "send", "(LFederationWire$Frame;LFederationWire$Wire;)Z"⟩, 13), (⟨"FederationWire$Wire", "push", "(I)V"⟩, 7), (⟨"FederationWire$Request", "addKey", "(I)V"⟩, 16), (⟨"FederationWire$Request", "nextStep", "(I)V"⟩, 16), (⟨"FederationWire", "take", "(ILFederationWire$Wire;I)I"⟩, 13), (⟨"FederationWire$Wire", "suits", "(I)Z"⟩, 7), (⟨"FederationWire$Wire", "lengthSuits", "(I)Z"⟩, 7), (⟨"FederationWire$Wire", "keep", "(I)V"⟩, 7), (⟨"FederationWire", "serve", "(LFederationWire$Frame;LFederationWire$Wire;)Z"⟩, 13), (⟨"FederationWire$ServingEnd", "placeOf", "(I)I"⟩, 5), (⟨"FederationWire$ServingEnd", "memoryAt", "(I)LFederationWire$Memory;"⟩, 5), (⟨"FederationWire$ServingEnd", "memoryFor", "(I)LFederationWire$Memory;"⟩, 5)]
theorem lw_r1 : ∀ q ∈ lw_privs_1, lw_okq q := List.forall_mem_cons.mpr ⟨lw_p0, List.forall_mem_cons.mpr ⟨lw_p1, List.forall_mem_cons.mpr ⟨lw_p2, List.forall_mem_cons.mpr ⟨lw_p3, List.forall_mem_cons.mpr ⟨lw_p4, List.forall_mem_cons.mpr ⟨lw_p5, List.forall_mem_cons.mpr ⟨lw_p6, List.forall_mem_cons.mpr ⟨lw_p7, List.forall_mem_cons.mpr ⟨lw_p8, List.forall_mem_cons.mpr ⟨lw_p9, List.forall_mem_cons.mpr ⟨lw_p10, List.forall_mem_cons.mpr ⟨lw_p11, List.forall_mem_cons.mpr ⟨lw_p12, List.forall_mem_cons.mpr ⟨lw_p13, List.forall_mem_cons.mpr ⟨lw_p14, List.forall_mem_cons.mpr ⟨lw_p15, fun _ h => absurd h List.not_mem_nil⟩⟩⟩⟩⟩⟩⟩⟩⟩⟩⟩⟩⟩⟩⟩⟩
theorem lw_p16 : lw_okq (⟨"FederationWire$ServingEnd", "remember", "(LFederationWire$Memory;LFederationWire$Frame;)V"⟩, 5) := ⟨⟨by decide +kernel, by decide +kernel⟩, List.mem_of_getElem? (i := 46) (by decide +kernel), List.mem_of_getElem? (i := 428) (by decide +kernel), List.mem_of_getElem? (i := 429) (by decide +kernel)⟩
theorem lw_p17 : lw_okq (⟨"FederationWire$ServingEnd", "writeRows", "(LFederationWire$Memory;II)V"⟩, 5) := ⟨⟨by decide +kernel, by decide +kernel⟩, List.mem_of_getElem? (i := 46) (by decide +kernel), List.mem_of_getElem? (i := 436) (by decide +kernel), List.mem_of_getElem? (i := 437) (by decide +kernel)⟩
theorem lw_p18 : lw_okq (⟨"FederationWire", "hear", "(LFederationWire$Frame;ILFederationWire$Wire;)Z"⟩, 13) := ⟨⟨by decide +kernel, by decide +kernel⟩, List.mem_of_getElem? (i := 11) (by decide +kernel), List.mem_of_getElem? (i := 447) (by decide +kernel), List.mem_of_getElem? (i := 448) (by decide +kernel)⟩
theorem lw_p19 : lw_okq (⟨"FederationWire", "learn", "(LFederationWire$Request;)V"⟩, 13) := ⟨⟨by decide +kernel, by decide +kernel⟩, List.mem_of_getElem? (i := 11) (by decide +kernel), List.mem_of_getElem? (i := 470) (by decide +kernel), List.mem_of_getElem? (i := 471) (by decide +kernel)⟩
theorem lw_p20 : lw_okq (⟨"FederationWire", "earliestDue", "()I"⟩, 13) := ⟨⟨by decide +kernel, by decide +kernel⟩, List.mem_of_getElem? (i := 11) (by decide +kernel), List.mem_of_getElem? (i := 492) (by decide +kernel), List.mem_of_getElem? (i := 493) (by decide +kernel)⟩
theorem lw_p21 : lw_okq (⟨"FederationWire", "settleDue", "()I"⟩, 13) := ⟨⟨by decide +kernel, by decide +kernel⟩, List.mem_of_getElem? (i := 11) (by decide +kernel), List.mem_of_getElem? (i := 497) (by decide +kernel), List.mem_of_getElem? (i := 498) (by decide +kernel)⟩
theorem lw_p22 : lw_okq (⟨"FederationWire", "repeat", "(LFederationWire$Request;)V"⟩, 13) := ⟨⟨by decide +kernel, by decide +kernel⟩, List.mem_of_getElem? (i := 11) (by decide +kernel), List.mem_of_getElem? (i := 501) (by decide +kernel), List.mem_of_getElem? (i := 502) (by decide +kernel)⟩
theorem lw_p23 : lw_okq (⟨"FederationWire$Request", "silentPart", "(IZ)I"⟩, 16) := ⟨⟨by decide +kernel, by decide +kernel⟩, List.mem_of_getElem? (i := 272) (by decide +kernel), List.mem_of_getElem? (i := 527) (by decide +kernel), List.mem_of_getElem? (i := 528) (by decide +kernel)⟩
theorem lw_p24 : lw_okq (⟨"FederationWireModel", "addKey", "(II)V"⟩, 51) := ⟨⟨by decide +kernel, by decide +kernel⟩, List.mem_of_getElem? (i := 547) (by decide +kernel), List.mem_of_getElem? (i := 722) (by decide +kernel), List.mem_of_getElem? (i := 723) (by decide +kernel)⟩
theorem lw_p25 : lw_okq (⟨"FederationWireModel", "askPart", "(I)V"⟩, 51) := ⟨⟨by decide +kernel, by decide +kernel⟩, List.mem_of_getElem? (i := 547) (by decide +kernel), List.mem_of_getElem? (i := 726) (by decide +kernel), List.mem_of_getElem? (i := 727) (by decide +kernel)⟩
theorem lw_p26 : lw_okq (⟨"FederationWireModel", "put", "(I)V"⟩, 51) := ⟨⟨by decide +kernel, by decide +kernel⟩, List.mem_of_getElem? (i := 547) (by decide +kernel), List.mem_of_getElem? (i := 730) (by decide +kernel), List.mem_of_getElem? (i := 731) (by decide +kernel)⟩
theorem lw_p27 : lw_okq (⟨"FederationWireModel", "keep", "(II)V"⟩, 51) := ⟨⟨by decide +kernel, by decide +kernel⟩, List.mem_of_getElem? (i := 547) (by decide +kernel), List.mem_of_getElem? (i := 734) (by decide +kernel), List.mem_of_getElem? (i := 735) (by decide +kernel)⟩
theorem lw_p28 : lw_okq (⟨"FederationWireModel", "sendLast", "(I)Z"⟩, 51) := ⟨⟨by decide +kernel, by decide +kernel⟩, List.mem_of_getElem? (i := 547) (by decide +kernel), List.mem_of_getElem? (i := 738) (by decide +kernel), List.mem_of_getElem? (i := 739) (by decide +kernel)⟩
theorem lw_p29 : lw_okq (⟨"FederationWireModel", "send", "(III)Z"⟩, 51) := ⟨⟨by decide +kernel, by decide +kernel⟩, List.mem_of_getElem? (i := 547) (by decide +kernel), List.mem_of_getElem? (i := 742) (by decide +kernel), List.mem_of_getElem? (i := 743) (by decide +kernel)⟩
theorem lw_p30 : lw_okq (⟨"FederationWireModel", "come", "(II)I"⟩, 51) := ⟨⟨by decide +kernel, by decide +kernel⟩, List.mem_of_getElem? (i := 547) (by decide +kernel), List.mem_of_getElem? (i := 754) (by decide +kernel), List.mem_of_getElem? (i := 755) (by decide +kernel)⟩
theorem lw_p31 : lw_okq (⟨"FederationWireModel", "fits", "(III)Z"⟩, 51) := ⟨⟨by decide +kernel, by decide +kernel⟩, List.mem_of_getElem? (i := 547) (by decide +kernel), List.mem_of_getElem? (i := 758) (by decide +kernel), List.mem_of_getElem? (i := 759) (by decide +kernel)⟩
def lw_privs_2 : List (MethodName × Nat) := [(⟨"FederationWire$ServingEnd", "remember", "(LFederationWire$Memory;LFederationWire$Frame;)V"⟩, 5), (⟨"FederationWire$ServingEnd", "writeRows", "(LFederationWire$Memory;II)V"⟩, 5), (⟨"FederationWire", "hear", "(LFederationWire$Frame;ILFederationWire$Wire;)Z"⟩, 13), (⟨"FederationWire", "learn", "(LFederationWire$Request;)V"⟩, 13), (⟨"FederationWire", "earliestDue", "()I"⟩, 13), (⟨"FederationWire", "settleDue", "()I"⟩, 13), (⟨"FederationWire", "repeat", "(LFederationWire$Request;)V"⟩, 13), (⟨"FederationWire$Request", "silentPart", "(IZ)I"⟩, 16), (⟨"FederationWireModel", "addKey", "(II)V"⟩, 51), (⟨"FederationWireModel", "askPart", "(I)V"⟩, 51), (⟨"FederationWireModel", "put", "(I)V"⟩, 51), (⟨"FederationWireModel", "keep", "(II)V"⟩, 51), (⟨"FederationWireModel", "sendLast", "(I)Z"⟩, 51), (⟨"FederationWireModel", "send", "(III)Z"⟩, 51), (⟨"FederationWireModel", "come", "(II)I"⟩, 51), (⟨"FederationWireModel", "fits", "(III)Z"⟩, 51)]
theorem lw_r2 : ∀ q ∈ lw_privs_2, lw_okq q := List.forall_mem_cons.mpr ⟨lw_p16, List.forall_mem_cons.mpr ⟨lw_p17, List.forall_mem_cons.mpr ⟨lw_p18, List.forall_mem_cons.mpr ⟨lw_p19, List.forall_mem_cons.mpr ⟨lw_p20, List.forall_mem_cons.mpr ⟨lw_p21, List.forall_mem_cons.mpr ⟨lw_p22, List.forall_mem_cons.mpr ⟨lw_p23, List.forall_mem_cons.mpr ⟨lw_p24, List.forall_mem_cons.mpr ⟨lw_p25, List.forall_mem_cons.mpr ⟨lw_p26, List.forall_mem_cons.mpr ⟨lw_p27, List.forall_mem_cons.mpr ⟨lw_p28, List.forall_mem_cons.mpr ⟨lw_p29, List.forall_mem_cons.mpr ⟨lw_p30, List.forall_mem_cons.mpr ⟨lw_p31, fun _ h => absurd h List.not_mem_nil⟩⟩⟩⟩⟩⟩⟩⟩⟩⟩⟩⟩⟩⟩⟩⟩
theorem lw_p32 : lw_okq (⟨"FederationWireModel", "end", "(I)V"⟩, 51) := ⟨⟨by decide +kernel, by decide +kernel⟩, List.mem_of_getElem? (i := 547) (by decide +kernel), List.mem_of_getElem? (i := 765) (by decide +kernel), List.mem_of_getElem? (i := 766) (by decide +kernel)⟩
theorem lw_p33 : lw_okq (⟨"FederationWireModel", "isServed", "(III)Z"⟩, 51) := ⟨⟨by decide +kernel, by decide +kernel⟩, List.mem_of_getElem? (i := 547) (by decide +kernel), List.mem_of_getElem? (i := 769) (by decide +kernel), List.mem_of_getElem? (i := 770) (by decide +kernel)⟩
theorem lw_p34 : lw_okq (⟨"FederationWireModel", "placeOf", "(I)I"⟩, 51) := ⟨⟨by decide +kernel, by decide +kernel⟩, List.mem_of_getElem? (i := 547) (by decide +kernel), List.mem_of_getElem? (i := 773) (by decide +kernel), List.mem_of_getElem? (i := 774) (by decide +kernel)⟩
theorem lw_p35 : lw_okq (⟨"FederationWireModel", "remember", "(II)V"⟩, 51) := ⟨⟨by decide +kernel, by decide +kernel⟩, List.mem_of_getElem? (i := 547) (by decide +kernel), List.mem_of_getElem? (i := 777) (by decide +kernel), List.mem_of_getElem? (i := 778) (by decide +kernel)⟩
theorem lw_p36 : lw_okq (⟨"FederationWireModel", "forget", "(I)V"⟩, 51) := ⟨⟨by decide +kernel, by decide +kernel⟩, List.mem_of_getElem? (i := 547) (by decide +kernel), List.mem_of_getElem? (i := 781) (by decide +kernel), List.mem_of_getElem? (i := 782) (by decide +kernel)⟩
theorem lw_p37 : lw_okq (⟨"FederationWireModel", "copy", "(II)V"⟩, 51) := ⟨⟨by decide +kernel, by decide +kernel⟩, List.mem_of_getElem? (i := 547) (by decide +kernel), List.mem_of_getElem? (i := 785) (by decide +kernel), List.mem_of_getElem? (i := 786) (by decide +kernel)⟩
theorem lw_p38 : lw_okq (⟨"FederationWireModel", "answer", "(IIII)V"⟩, 51) := ⟨⟨by decide +kernel, by decide +kernel⟩, List.mem_of_getElem? (i := 547) (by decide +kernel), List.mem_of_getElem? (i := 789) (by decide +kernel), List.mem_of_getElem? (i := 790) (by decide +kernel)⟩
theorem lw_p39 : lw_okq (⟨"FederationWireModel", "isDropped", "(IIII)Z"⟩, 51) := ⟨⟨by decide +kernel, by decide +kernel⟩, List.mem_of_getElem? (i := 547) (by decide +kernel), List.mem_of_getElem? (i := 793) (by decide +kernel), List.mem_of_getElem? (i := 794) (by decide +kernel)⟩
theorem lw_p40 : lw_okq (⟨"FederationWireModel", "fail", "(II)V"⟩, 51) := ⟨⟨by decide +kernel, by decide +kernel⟩, List.mem_of_getElem? (i := 547) (by decide +kernel), List.mem_of_getElem? (i := 797) (by decide +kernel), List.mem_of_getElem? (i := 798) (by decide +kernel)⟩
theorem lw_p41 : lw_okq (⟨"FederationWireModel", "finish", "(I)V"⟩, 51) := ⟨⟨by decide +kernel, by decide +kernel⟩, List.mem_of_getElem? (i := 547) (by decide +kernel), List.mem_of_getElem? (i := 801) (by decide +kernel), List.mem_of_getElem? (i := 802) (by decide +kernel)⟩
theorem lw_p42 : lw_okq (⟨"FederationWireModel", "takeOut", "(I)I"⟩, 51) := ⟨⟨by decide +kernel, by decide +kernel⟩, List.mem_of_getElem? (i := 547) (by decide +kernel), List.mem_of_getElem? (i := 809) (by decide +kernel), List.mem_of_getElem? (i := 810) (by decide +kernel)⟩
theorem lw_p43 : lw_okq (⟨"FederationWireModel", "joinedOnes", "(III)I"⟩, 51) := ⟨⟨by decide +kernel, by decide +kernel⟩, List.mem_of_getElem? (i := 547) (by decide +kernel), List.mem_of_getElem? (i := 833) (by decide +kernel), List.mem_of_getElem? (i := 834) (by decide +kernel)⟩
theorem lw_p44 : lw_okq (⟨"FederationWireModel", "isFailedSilently", "(I)Z"⟩, 51) := ⟨⟨by decide +kernel, by decide +kernel⟩, List.mem_of_getElem? (i := 547) (by decide +kernel), List.mem_of_getElem? (i := 837) (by decide +kernel), List.mem_of_getElem? (i := 838) (by decide +kernel)⟩
def lw_privs_3 : List (MethodName × Nat) := [(⟨"FederationWireModel", "end", "(I)V"⟩, 51), (⟨"FederationWireModel", "isServed", "(III)Z"⟩, 51), (⟨"FederationWireModel", "placeOf", "(I)I"⟩, 51), (⟨"FederationWireModel", "remember", "(II)V"⟩, 51), (⟨"FederationWireModel", "forget", "(I)V"⟩, 51), (⟨"FederationWireModel", "copy", "(II)V"⟩, 51), (⟨"FederationWireModel", "answer", "(IIII)V"⟩, 51), (⟨"FederationWireModel", "isDropped", "(IIII)Z"⟩, 51), (⟨"FederationWireModel", "fail", "(II)V"⟩, 51), (⟨"FederationWireModel", "finish", "(I)V"⟩, 51), (⟨"FederationWireModel", "takeOut", "(I)I"⟩, 51), (⟨"FederationWireModel", "joinedOnes", "(III)I"⟩, 51), (⟨"FederationWireModel", "isFailedSilently", "(I)Z"⟩, 51)]
theorem lw_r3 : ∀ q ∈ lw_privs_3, lw_okq q := List.forall_mem_cons.mpr ⟨lw_p32, List.forall_mem_cons.mpr ⟨lw_p33, List.forall_mem_cons.mpr ⟨lw_p34, List.forall_mem_cons.mpr ⟨lw_p35, List.forall_mem_cons.mpr ⟨lw_p36, List.forall_mem_cons.mpr ⟨lw_p37, List.forall_mem_cons.mpr ⟨lw_p38, List.forall_mem_cons.mpr ⟨lw_p39, List.forall_mem_cons.mpr ⟨lw_p40, List.forall_mem_cons.mpr ⟨lw_p41, List.forall_mem_cons.mpr ⟨lw_p42, List.forall_mem_cons.mpr ⟨lw_p43, List.forall_mem_cons.mpr ⟨lw_p44, fun _ h => absurd h List.not_mem_nil⟩⟩⟩⟩⟩⟩⟩⟩⟩⟩⟩⟩⟩
def lw_privs : List (MethodName × Nat) := lw_privs_1 ++ (lw_privs_2 ++ (lw_privs_3))
def lw_tbl : List Cond := k2_sels lw_privs ++ tables_1
theorem lw_privs_ok : ∀ q ∈ lw_privs, lw_okq q := by
  show ∀ q ∈ lw_privs_1 ++ (lw_privs_2 ++ (lw_privs_3)), lw_okq q
  exact List.forall_mem_append.mpr ⟨lw_r1, List.forall_mem_append.mpr ⟨lw_r2, lw_r3⟩⟩
end
section
/-! Names: classes, fields, kinds (by program, out of the listing). -/
def fT_0 : u_T := fun k => match k with
  | 0 => ("FederationWire$Frame", "kind", "I", false)
  | 1 => ("FederationWire$Frame", "number", "I", false)
  | 2 => ("FederationWire$Frame", "length", "I", false)
  | _ => ("FederationWire$Frame", "body", "[I", true)
def fY_0 : Nat → FieldType := fun k => match k with
  | 0 => .int
  | 1 => .int
  | 2 => .int
  | _ => (.array .int)
def fT_1 : u_T := fun k => match k with
  | 0 => ("FederationWire$Memory", "number", "I", false)
  | 1 => ("FederationWire$Memory", "askStep", "I", false)
  | 2 => ("FederationWire$Memory", "latestStep", "I", false)
  | _ => ("FederationWire$Memory", "rows", "LFederationWire$Pairs;", true)
def fY_1 : Nat → FieldType := fun k => match k with
  | 0 => .int
  | 1 => .int
  | 2 => .int
  | _ => (.object "FederationWire$Pairs")
def fT_2 : u_T := fun k => match k with
  | 0 => ("FederationWire$Pairs", "keys", "[I", true)
  | 1 => ("FederationWire$Pairs", "values", "[I", true)
  | _ => ("FederationWire$Pairs", "size", "I", false)
def fY_2 : Nat → FieldType := fun k => match k with
  | 0 => (.array .int)
  | 1 => (.array .int)
  | _ => .int
def fT_3 : u_T := fun k => match k with
  | 0 => ("FederationWire$Request", "house", "I", true)
  | 1 => ("FederationWire$Request", "silent", "Z", true)
  | 2 => ("FederationWire$Request", "partSize", "I", true)
  | 3 => ("FederationWire$Request", "bindings", "LFederationWire$Pairs;", true)
  | 4 => ("FederationWire$Request", "keys", "[I", true)
  | 5 => ("FederationWire$Request", "keyCount", "I", false)
  | 6 => ("FederationWire$Request", "keysAsked", "I", false)
  | 7 => ("FederationWire$Request", "rows", "LFederationWire$Pairs;", true)
  | 8 => ("FederationWire$Request", "rowsOfPart", "I", false)
  | 9 => ("FederationWire$Request", "latest", "LFederationWire$Frame;", true)
  | 10 => ("FederationWire$Request", "number", "I", true)
  | 11 => ("FederationWire$Request", "step", "I", false)
  | 12 => ("FederationWire$Request", "sentAt", "I", false)
  | 13 => ("FederationWire$Request", "repeats", "I", false)
  | 14 => ("FederationWire$Request", "state", "I", false)
  | _ => ("FederationWire$Request", "why", "I", false)
def fY_3 : Nat → FieldType := fun k => match k with
  | 0 => .int
  | 1 => .boolean
  | 2 => .int
  | 3 => (.object "FederationWire$Pairs")
  | 4 => (.array .int)
  | 5 => .int
  | 6 => .int
  | 7 => (.object "FederationWire$Pairs")
  | 8 => .int
  | 9 => (.object "FederationWire$Frame")
  | 10 => .int
  | 11 => .int
  | 12 => .int
  | 13 => .int
  | 14 => .int
  | _ => .int
def fT_4 : u_T := fun k => match k with
  | 0 => ("FederationWire$ServingEnd", "facts", "LFederationWire$Pairs;", true)
  | 1 => ("FederationWire$ServingEnd", "memories", "[LFederationWire$Memory;", true)
  | 2 => ("FederationWire$ServingEnd", "remembered", "I", false)
  | 3 => ("FederationWire$ServingEnd", "repeats", "I", false)
  | _ => ("FederationWire$ServingEnd", "answer", "LFederationWire$Frame;", true)
def fY_4 : Nat → FieldType := fun k => match k with
  | 0 => (.object "FederationWire$Pairs")
  | 1 => (.array (.object "FederationWire$Memory"))
  | 2 => .int
  | 3 => .int
  | _ => (.object "FederationWire$Frame")
def fT_5 : u_T := fun k => match k with
  | 0 => ("FederationWire$Wire", "live", "Z", false)
  | 1 => ("FederationWire$Wire", "outRow", "[I", true)
  | 2 => ("FederationWire$Wire", "outFirst", "I", false)
  | 3 => ("FederationWire$Wire", "outSize", "I", false)
  | 4 => ("FederationWire$Wire", "incoming", "LFederationWire$Frame;", true)
  | 5 => ("FederationWire$Wire", "came", "I", false)
  | _ => ("FederationWire$Wire", "announced", "I", false)
def fY_5 : Nat → FieldType := fun k => match k with
  | 0 => .boolean
  | 1 => (.array .int)
  | 2 => .int
  | 3 => .int
  | 4 => (.object "FederationWire$Frame")
  | 5 => .int
  | _ => .int
def fT_6 : u_T := fun k => match k with
  | 0 => ("FederationWire", "wires", "[LFederationWire$Wire;", true)
  | 1 => ("FederationWire", "requests", "[LFederationWire$Request;", true)
  | 2 => ("FederationWire", "requestCount", "I", false)
  | 3 => ("FederationWire", "nextBindings", "LFederationWire$Pairs;", true)
  | 4 => ("FederationWire", "servingEnd", "LFederationWire$ServingEnd;", true)
  | 5 => ("FederationWire", "estimates", "[I", true)
  | 6 => ("FederationWire", "estimated", "[Z", true)
  | 7 => ("FederationWire", "bulk", "I", false)
  | 8 => ("FederationWire", "patience", "I", false)
  | 9 => ("FederationWire", "retries", "I", false)
  | 10 => ("FederationWire", "clock", "I", false)
  | 11 => ("FederationWire", "dropped", "I", false)
  | _ => ("FederationWire", "lost", "I", false)
def fY_6 : Nat → FieldType := fun k => match k with
  | 0 => (.array (.object "FederationWire$Wire"))
  | 1 => (.array (.object "FederationWire$Request"))
  | 2 => .int
  | 3 => (.object "FederationWire$Pairs")
  | 4 => (.object "FederationWire$ServingEnd")
  | 5 => (.array .int)
  | 6 => (.array .boolean)
  | 7 => .int
  | 8 => .int
  | 9 => .int
  | 10 => .int
  | 11 => .int
  | _ => .int
def fT_7 : u_T := fun k => match k with
  | 0 => ("FederationWireModel", "isUp", "[Z", true)
  | 1 => ("FederationWireModel", "outs", "[I", true)
  | 2 => ("FederationWireModel", "outSizes", "[I", true)
  | 3 => ("FederationWireModel", "opens", "[I", true)
  | 4 => ("FederationWireModel", "openSizes", "[I", true)
  | 5 => ("FederationWireModel", "bulk", "I", false)
  | 6 => ("FederationWireModel", "patience", "I", false)
  | 7 => ("FederationWireModel", "retries", "I", false)
  | 8 => ("FederationWireModel", "clock", "I", false)
  | 9 => ("FederationWireModel", "dropped", "I", false)
  | 10 => ("FederationWireModel", "lost", "I", false)
  | 11 => ("FederationWireModel", "bindings", "I", false)
  | 12 => ("FederationWireModel", "nextKeys", "[I", true)
  | 13 => ("FederationWireModel", "nextTags", "[I", true)
  | 14 => ("FederationWireModel", "requests", "I", false)
  | 15 => ("FederationWireModel", "houses", "[I", true)
  | 16 => ("FederationWireModel", "isSilent", "[Z", true)
  | 17 => ("FederationWireModel", "states", "[I", true)
  | 18 => ("FederationWireModel", "whys", "[I", true)
  | 19 => ("FederationWireModel", "boundCounts", "[I", true)
  | 20 => ("FederationWireModel", "boundKeys", "[I", true)
  | 21 => ("FederationWireModel", "boundTags", "[I", true)
  | 22 => ("FederationWireModel", "keyCounts", "[I", true)
  | 23 => ("FederationWireModel", "keys", "[I", true)
  | 24 => ("FederationWireModel", "bulks", "[I", true)
  | 25 => ("FederationWireModel", "asked", "[I", true)
  | 26 => ("FederationWireModel", "rowCounts", "[I", true)
  | 27 => ("FederationWireModel", "rowKeys", "[I", true)
  | 28 => ("FederationWireModel", "rowValues", "[I", true)
  | 29 => ("FederationWireModel", "partRows", "[I", true)
  | 30 => ("FederationWireModel", "steps", "[I", true)
  | 31 => ("FederationWireModel", "repeats", "[I", true)
  | 32 => ("FederationWireModel", "sentAt", "[I", true)
  | 33 => ("FederationWireModel", "lastKinds", "[I", true)
  | 34 => ("FederationWireModel", "lastSizes", "[I", true)
  | 35 => ("FederationWireModel", "lastBytes", "[I", true)
  | 36 => ("FederationWireModel", "estimates", "[I", true)
  | 37 => ("FederationWireModel", "isEstimated", "[Z", true)
  | 38 => ("FederationWireModel", "facts", "I", false)
  | 39 => ("FederationWireModel", "factKeys", "[I", true)
  | 40 => ("FederationWireModel", "factValues", "[I", true)
  | 41 => ("FederationWireModel", "known", "I", false)
  | 42 => ("FederationWireModel", "doubles", "I", false)
  | 43 => ("FederationWireModel", "numbers", "[I", true)
  | 44 => ("FederationWireModel", "askSteps", "[I", true)
  | 45 => ("FederationWireModel", "lastSteps", "[I", true)
  | 46 => ("FederationWireModel", "foundCounts", "[I", true)
  | 47 => ("FederationWireModel", "foundKeys", "[I", true)
  | 48 => ("FederationWireModel", "foundValues", "[I", true)
  | 49 => ("FederationWireModel", "made", "I", false)
  | _ => ("FederationWireModel", "bytes", "[I", true)
def fY_7 : Nat → FieldType := fun k => match k with
  | 0 => (.array .boolean)
  | 1 => (.array .int)
  | 2 => (.array .int)
  | 3 => (.array .int)
  | 4 => (.array .int)
  | 5 => .int
  | 6 => .int
  | 7 => .int
  | 8 => .int
  | 9 => .int
  | 10 => .int
  | 11 => .int
  | 12 => (.array .int)
  | 13 => (.array .int)
  | 14 => .int
  | 15 => (.array .int)
  | 16 => (.array .boolean)
  | 17 => (.array .int)
  | 18 => (.array .int)
  | 19 => (.array .int)
  | 20 => (.array .int)
  | 21 => (.array .int)
  | 22 => (.array .int)
  | 23 => (.array .int)
  | 24 => (.array .int)
  | 25 => (.array .int)
  | 26 => (.array .int)
  | 27 => (.array .int)
  | 28 => (.array .int)
  | 29 => (.array .int)
  | 30 => (.array .int)
  | 31 => (.array .int)
  | 32 => (.array .int)
  | 33 => (.array .int)
  | 34 => (.array .int)
  | 35 => (.array .int)
  | 36 => (.array .int)
  | 37 => (.array .boolean)
  | 38 => .int
  | 39 => (.array .int)
  | 40 => (.array .int)
  | 41 => .int
  | 42 => .int
  | 43 => (.array .int)
  | 44 => (.array .int)
  | 45 => (.array .int)
  | 46 => (.array .int)
  | 47 => (.array .int)
  | 48 => (.array .int)
  | 49 => .int
  | _ => (.array .int)
def fw_ft : Nat → List (Option Nat) := fun K => match K with
  | 0 => [none, none, none, some 100]
  | 1 => [none, none, none, some 2]
  | 2 => [some 100, some 100, none]
  | 3 => [none, none, none, some 2, some 100, none, none, some 2, none, some 0, none, none, none, none, none, none]
  | 4 => [some 2, some 201, none, none, some 0]
  | 5 => [none, some 100, none, none, some 0, none, none]
  | 6 => [some 205, some 203, none, some 2, some 4, some 100, some 101, none, none, none, none, none, none]
  | 7 => [some 101, some 100, some 100, some 100, some 100, none, none, none, none, none, none, none, some 100, some 100, none, some 100, some 101, some 100, some 100, some 100, some 100, some 100, some 100, some 100, some 100, some 100, some 100, some 100, some 100, some 100, some 100, some 100, some 100, some 100, some 100, some 100, some 100, some 101, none, some 100, some 100, none, none, some 100, some 100, some 100, some 100, some 100, some 100, none, some 100]
  | _ => []
abbrev fw_cl : List vw_C := [("FederationWire$Frame", fT_0, 4), ("FederationWire$Memory", fT_1, 4), ("FederationWire$Pairs", fT_2, 3), ("FederationWire$Request", fT_3, 16), ("FederationWire$ServingEnd", fT_4, 5), ("FederationWire$Wire", fT_5, 7), ("FederationWire", fT_6, 13), ("FederationWireModel", fT_7, 51)]
abbrev fw_tys : List (Nat × FieldType) := [(100, .int), (101, .boolean), (201, .object "FederationWire$Memory"), (203, .object "FederationWire$Request"), (205, .object "FederationWire$Wire")]
abbrev fw_ao : List String := ["FederationWire$Memory", "FederationWire$Request", "FederationWire$Wire"]
def fw_isN : Cond → Bool
  | .fieldLinkNest .. => true
  | .methodLinkNest .. => true
  | _ => false
def fw_WS : List Cond := lw_tbl.filter goodWord
def fw_NS : List Cond := lw_tbl.filter fw_isN
theorem fw_tb {w : Cond} {i : Nat} (h : tables_1[i]? = some w) : w ∈ lw_tbl := List.mem_append_right _ (List.mem_of_getElem? h)
theorem fw_ts {w : Cond} (i : Nat) (h : (k2_sels lw_privs)[i]? = some w) : w ∈ lw_tbl := List.mem_append_left _ (List.mem_of_getElem? h)
theorem fw_in {w : Cond} (h : w ∈ lw_tbl) (hg : goodWord w = true) : w ∈ fw_WS := List.mem_filter.mpr ⟨h, hg⟩
theorem fw_inN {w : Cond} (h : w ∈ lw_tbl) (hg : fw_isN w = true) : w ∈ fw_NS := List.mem_filter.mpr ⟨h, hg⟩
theorem fw_WS_ok : ∀ w ∈ fw_WS, goodWord w = true := fun _ h => (List.mem_filter.mp h).2
theorem fw_NS_ok : ∀ w ∈ fw_NS, fw_isN w = true := fun _ h => (List.mem_filter.mp h).2
theorem fw_NS_in : ∀ w ∈ fw_NS, w ∈ lw_tbl := fun _ h => (List.mem_filter.mp h).1
theorem fw_WS_in : ∀ w ∈ fw_WS, w ∈ lw_tbl := fun _ h => (List.mem_filter.mp h).1
def fw_at (own : String) (idx : Nat) : Cond → Bool
  | .fieldLinkNest o i _ _ _ _ => o == own && i == idx
  | _ => false
theorem fw_noN (own : String) (idx : Nat) (h : lw_tbl.all (fun w => !fw_at own idx w) = true) : ∀ host Cn nm d, Cond.fieldLinkNest own idx Cn nm d host ∉ fw_NS := by
  intro host Cn nm d hm
  have h1 := List.all_eq_true.mp h _ (fw_NS_in _ hm)
  simp [fw_at] at h1
end
section
/-! An abstract store (ints, references, lengths, the next address), what it is on the heap, and the kit's rows over it. -/
abbrev fw_S : Type := (Nat → Nat → Int32) × (Nat → Nat → Option Nat) × (Nat → Nat) × Nat
def fw_g (S : fw_S) (a : Nat) : Nat → Int32 := S.1 a
def fw_r (S : fw_S) (a : Nat) : Nat → Option Nat := S.2.1 a
def fw_l (S : fw_S) (a : Nat) : Nat := S.2.2.1 a
def fw_z (S : fw_S) : Nat := S.2.2.2
def fw_wi (S : fw_S) (a k : Nat) (v : Int32) : fw_S := (va_up S.1 a (va_up (S.1 a) k v), S.2.1, S.2.2.1, S.2.2.2)
def fw_wr (S : fw_S) (a k : Nat) (v : Option Nat) : fw_S := (S.1, va_up S.2.1 a (va_up (S.2.1 a) k v), S.2.2.1, S.2.2.2)
def fw_nw (S : fw_S) (n : Nat) : fw_S := (va_up S.1 S.2.2.2 (fun _ => 0), va_up S.2.1 S.2.2.2 (fun _ => none), va_up S.2.2.1 S.2.2.2 n, S.2.2.2 + 1)
def fw_let {α β : Type} (a : α) (f : α → β) : β := f a
def fw_om {α β : Type} (o : Option α) (n : β) (f : α → β) : β := match o with
  | none => n
  | some a => f a
theorem fw_let_use {α β : Type} {a x : α} {f : α → β} {y : β} (hx : x = a) (h : fw_let a f = y) : f x = y := by subst hx; exact h
theorem fw_om_none {α β : Type} {o : Option α} {n y : β} {f : α → β} (ho : o = none) (h : fw_om o n f = y) : n = y := by subst ho; exact h
theorem fw_om_some {α β : Type} {o : Option α} {n y : β} {f : α → β} {a : α} (ho : o = some a) (h : fw_om o n f = y) : f a = y := by subst ho; exact h
theorem fw_if_t {β : Type} {c : Prop} [Decidable c] {a b y : β} (hc : c) (h : (if c then a else b) = y) : a = y := by rw [if_pos hc] at h; exact h
theorem fw_if_f {β : Type} {c : Prop} [Decidable c] {a b y : β} (hc : ¬ c) (h : (if c then a else b) = y) : b = y := by rw [if_neg hc] at h; exact h
theorem fw_bind {α β : Type} {o : Option α} {f : α → Option β} {y : β} (h : o.bind f = some y) : ∃ x, o = some x ∧ f x = some y := Option.bind_eq_some_iff.mp h
-- reads behind writes
theorem fw_g_wi (S : fw_S) (a k : Nat) (v : Int32) (b j : Nat) : fw_g (fw_wi S a k v) b j = if b = a ∧ j = k then v else fw_g S b j := by
  by_cases hb : b = a
  · subst hb
    by_cases hj : j = k
    · subst hj; simp [fw_g, fw_wi, va_up]
    · simp [fw_g, fw_wi, va_up, hj]
  · simp [fw_g, fw_wi, va_up, hb]
theorem fw_g_wi_ne {S : fw_S} {a k b : Nat} {v : Int32} (h : b ≠ a) : fw_g (fw_wi S a k v) b = fw_g S b := va_up_ne _ _ h
theorem fw_g_wi_self {S : fw_S} {a k : Nat} {v : Int32} : fw_g (fw_wi S a k v) a = va_up (fw_g S a) k v := va_up_self _ _ _
theorem fw_g_wr (S : fw_S) (a k : Nat) (v : Option Nat) (b : Nat) : fw_g (fw_wr S a k v) b = fw_g S b := rfl
theorem fw_r_wi (S : fw_S) (a k : Nat) (v : Int32) (b : Nat) : fw_r (fw_wi S a k v) b = fw_r S b := rfl
theorem fw_l_wi (S : fw_S) (a k : Nat) (v : Int32) (b : Nat) : fw_l (fw_wi S a k v) b = fw_l S b := rfl
theorem fw_z_wi (S : fw_S) (a k : Nat) (v : Int32) : fw_z (fw_wi S a k v) = fw_z S := rfl
theorem fw_l_wr (S : fw_S) (a k : Nat) (v : Option Nat) (b : Nat) : fw_l (fw_wr S a k v) b = fw_l S b := rfl
theorem fw_z_wr (S : fw_S) (a k : Nat) (v : Option Nat) : fw_z (fw_wr S a k v) = fw_z S := rfl
theorem fw_r_wr_ne {S : fw_S} {a k b : Nat} {v : Option Nat} (h : b ≠ a) : fw_r (fw_wr S a k v) b = fw_r S b := va_up_ne _ _ h
theorem fw_r_wr_self {S : fw_S} {a k : Nat} {v : Option Nat} : fw_r (fw_wr S a k v) a = va_up (fw_r S a) k v := va_up_self _ _ _
theorem fw_r_wr (S : fw_S) (a k : Nat) (v : Option Nat) (b j : Nat) : fw_r (fw_wr S a k v) b j = if b = a ∧ j = k then v else fw_r S b j := by
  by_cases hb : b = a
  · subst hb
    by_cases hj : j = k
    · subst hj; simp [fw_r, fw_wr, va_up]
    · simp [fw_r, fw_wr, va_up, hj]
  · simp [fw_r, fw_wr, va_up, hb]
theorem fw_g_nw_ne {S : fw_S} {n b : Nat} (h : b ≠ fw_z S) : fw_g (fw_nw S n) b = fw_g S b := va_up_ne _ _ h
theorem fw_r_nw_ne {S : fw_S} {n b : Nat} (h : b ≠ fw_z S) : fw_r (fw_nw S n) b = fw_r S b := va_up_ne _ _ h
theorem fw_l_nw_ne {S : fw_S} {n b : Nat} (h : b ≠ fw_z S) : fw_l (fw_nw S n) b = fw_l S b := va_up_ne _ _ h
theorem fw_g_nw_self {S : fw_S} {n : Nat} : fw_g (fw_nw S n) (fw_z S) = fun _ => 0 := va_up_self _ _ _
theorem fw_r_nw_self {S : fw_S} {n : Nat} : fw_r (fw_nw S n) (fw_z S) = fun _ => none := va_up_self _ _ _
theorem fw_l_nw_self {S : fw_S} {n : Nat} : fw_l (fw_nw S n) (fw_z S) = n := va_up_self _ _ _
theorem fw_z_nw (S : fw_S) (n : Nat) : fw_z (fw_nw S n) = fw_z S + 1 := rfl
-- cells: kind K < 100 an object of class K; 100 .. 199 an array of numbers; 200 + K an array of references to kind K
def fw_fv (K : Nat) (g : Nat → Int32) (r : Nat → Option Nat) (j : Nat) : Value := match (fw_ft K)[j]? with
  | some (some _) => va_rf (r j)
  | _ => .int (g j)
def fw_fl (K : Nat) (g : Nat → Int32) (r : Nat → Option Nat) : List Value := (List.range (fw_ft K).length).map (fw_fv K g r)
def fw_cell (tA : Nat → ClassId) (K n : Nat) (g : Nat → Int32) (r : Nat → Option Nat) : va_E := if K < 100 then .inr (K, fw_fl K g r) else if K < 200 then .inl (tA K, n, .inl g) else .inl (tA K, n, .inr (.inr (.inr (.inr r))))
def fw_rt (K k : Nat) : Option Nat := if K < 100 then ((fw_ft K)[k]?).bind id else if 200 ≤ K then some (K - 200) else none
def fw_W (kd : Nat → Option Nat) (S : fw_S) : Prop := ∀ (a K : Nat), kd a = some K → ∀ (k b : Nat), fw_r S a k = some b → ∀ K' : Nat, fw_rt K k = some K' → kd b = some K'
def fw_X (kd kd' : Nat → Option Nat) : Prop := ∀ (a K : Nat), kd a = some K → kd' a = some K
theorem fw_X.rf {kd : Nat → Option Nat} : fw_X kd kd := fun _ _ h => h
theorem fw_X.tr {k1 k2 k3 : Nat → Option Nat} (h : fw_X k1 k2) (h' : fw_X k2 k3) : fw_X k1 k3 := fun a K q => h' a K (h a K q)
theorem fw_fl_i {K k : Nat} {g : Nat → Int32} {r : Nat → Option Nat} {v : Int32} (hf : (fw_ft K)[k]? = some none) : (fw_fl K g r).set k (.int v) = fw_fl K (va_up g k v) r := by
  have hk : k < (fw_ft K).length := (List.getElem?_eq_some_iff.mp hf).1
  apply List.ext_getElem?
  intro j
  by_cases hj : j = k
  · subst hj
    rw [List.getElem?_set_self (by simp [fw_fl, hk])]
    have h1 : fw_fv K (va_up g j v) r j = .int v := by unfold fw_fv; rw [hf]; simp [va_up]
    simp only [fw_fl, List.getElem?_map, List.getElem?_range hk, Option.map_some, h1]
  · rw [List.getElem?_set_ne (Ne.symm hj)]
    simp only [fw_fl, List.getElem?_map]
    by_cases hl : j < (fw_ft K).length
    · simp [hl, fw_fv, va_up, hj]
    · simp [hl]
theorem fw_fl_r {K k K' : Nat} {g : Nat → Int32} {r : Nat → Option Nat} {v : Option Nat} (hf : (fw_ft K)[k]? = some (some K')) : (fw_fl K g r).set k (va_rf v) = fw_fl K g (va_up r k v) := by
  have hk : k < (fw_ft K).length := (List.getElem?_eq_some_iff.mp hf).1
  apply List.ext_getElem?
  intro j
  by_cases hj : j = k
  · subst hj
    rw [List.getElem?_set_self (by simp [fw_fl, hk])]
    have h1 : fw_fv K g (va_up r j v) j = va_rf v := by unfold fw_fv; rw [hf]; simp [va_up]
    simp only [fw_fl, List.getElem?_map, List.getElem?_range hk, Option.map_some, h1]
  · rw [List.getElem?_set_ne (Ne.symm hj)]
    simp only [fw_fl, List.getElem?_map]
    by_cases hl : j < (fw_ft K).length
    · simp [hl, fw_fv, va_up, hj]
    · simp [hl]
-- the context: classes and slots D, array classes tA, the heap at the start of the law
abbrev fw_G : Type := va_G × (Nat → ClassId) × Heap
def fw_A (G : fw_G) : Nat → Prop := fun q => G.2.2.size ≤ q
def fw_T (G : fw_G) : List (ClassId × FieldType) := fw_tys.map (fun q => (G.2.1 q.1, q.2))
def fw_K (G : fw_G) (U : State) : Prop := va_K G.1 fw_cl (fw_T G) U ∧ (∀ w ∈ fw_NS, va_Nw w U) ∧ ∀ C ∈ fw_ao, va_AO C U
theorem fw_K.moved {G : fw_G} {s U : State} (hW : s.WarmedH U.vm) (h : fw_K G s) : fw_K G U := by
  refine ⟨va_K.moved hW.alike h.1, fun w hw => ?_, fun C hC => va_AO.moved hW.alike (h.2.2 C hC)⟩
  have h1 := h.2.1 w hw
  have h2 := fw_NS_ok w hw
  cases w <;> first | exact va_Nw.warmF hW h1 | exact va_Nw.warmM hW h1 | (exact absurd h2 (by decide)) | cases h2
theorem fw_K.calling {G : fw_G} {U : State} {g : JFrame} {mk : MethodId} {a : Array Value} (h : fw_K G U) : fw_K G (U.calling g mk a) := by
  refine ⟨va_K.moved (u := U) (U := U.calling g mk a) (Vm.Alike.refl U.vm) h.1, fun w hw => ?_, fun C hC => va_AO.moved (u := U) (U := U.calling g mk a) (Vm.Alike.refl U.vm) (h.2.2 C hC)⟩
  have h2 := fw_NS_ok w hw
  have h1 := h.2.1 w hw
  cases w <;> first | exact va_Nw.same rfl (u := U) rfl h1 | cases h2
def fw_R (G : fw_G) (kd : Nat → Option Nat) (S : fw_S) (H : Heap) (locs : List Loc) : Prop :=
  (∀ (a K : Nat), kd a = some K → G.2.2.size ≤ a ∧ va_at G.1 fw_cl (a, fw_cell G.2.1 K (fw_l S a) (fw_g S a) (fw_r S a)) H) ∧ (∀ q : Nat, q < G.2.2.size → H[q]? = G.2.2[q]?) ∧ G.2.2.size ≤ H.size ∧ (∀ l ∈ locs, G.2.2.size ≤ l.base) ∧ H.size = fw_z S ∧ fw_W kd S
end
section
/-! The kit's rows over the abstract store. -/
def fw_C (G : fw_G) (own : String) (cc : ByteArray) (nL : Nat) (ret : Option FieldType) (p : Program) (s : State) (m : MethodId) (args : Array Value) (meth : Method) (c : Code) : Prop :=
  p.tables.exec = Jvm.exec ∧ c.code = cc ∧ c.maxLocals = nL ∧ s.vm.findClass own = some m.cls ∧ (∀ w ∈ fw_WS, w.before args s = true) ∧ meth.locks = false ∧ meth.sig.returnType = ret ∧ fw_K G s
-- a class of the tables
def fw_Cl (K : Nat) (Cn : String) (T : u_T) (N : Nat) : Prop :=
  fw_cl[K]? = some (Cn, T, N) ∧ (∀ w ∈ u_ws Cn T N, w ∈ fw_WS) ∧ N = (fw_ft K).length ∧ K < 100 ∧ (∃ ty0 : Nat → FieldType, ∀ j, j < N → parseFieldDescriptor (T j).2.2.1 = some (ty0 j)) ∧ (∀ a, a < N → ∀ b, b < N → a ≠ b → (T a).2.1 ≠ (T b).2.1) ∧ ∀ j, j < N → (T j).1 = Cn
-- a field's link: place idx of the pool of 'own' is field k of kind K, its type ty, final or not
def fw_F (own : String) (idx K k : Nat) (ty : FieldType) (fin : Bool) : Prop :=
  ∃ (Cn : String) (T : u_T) (N : Nat), fw_Cl K Cn T N ∧ k < N ∧ parseFieldDescriptor (T k).2.2.1 = some ty ∧ (T k).2.2.2 = fin ∧ (Cond.fieldLink own idx Cn (T k).2.1 (T k).2.2.1 ∈ fw_WS ∨ ∃ host, Cond.fieldLinkNest own idx Cn (T k).2.1 (T k).2.2.1 host ∈ fw_NS)
theorem fw_ifn {β : Type} {c : Prop} [Decidable c] {b : Option β} {y : β} (h : (if c then none else b) = some y) : ¬ c ∧ b = some y := by
  by_cases hc : c
  · rw [if_pos hc] at h; cases h
  · rw [if_neg hc] at h; exact ⟨hc, h⟩
theorem fw_ifp {β : Type} {c : Prop} [Decidable c] {b : Option β} {y : β} (h : (if c then b else none) = some y) : c ∧ b = some y := by
  by_cases hc : c
  · rw [if_pos hc] at h; exact ⟨hc, h⟩
  · rw [if_neg hc] at h; cases h
theorem fw_let_ex {α β : Type} {a : α} {f : α → β} {y : β} (h : fw_let a f = y) : ∃ x, x = a ∧ f x = y := ⟨a, rfl, h⟩
def fw_b2 {α β γ : Type} (o : Option (α × β)) (f : α → β → Option γ) : Option γ := match o with
  | none => none
  | some (x, s) => f x s
theorem fw_b2_ex {α β γ : Type} {o : Option (α × β)} {f : α → β → Option γ} {y : γ} (h : fw_b2 o f = some y) : ∃ x s, o = some (x, s) ∧ f x s = some y := by
  cases o with
  | none => cases h
  | some q => exact ⟨q.1, q.2, rfl, h⟩
theorem fw_tout {x : Int32} (lo hi : Int) (h : ∀ k : Int, lo ≤ k → k ≤ hi → x = Int32.ofInt k → False) : x.toInt < lo ∨ hi < x.toInt := by
  by_cases h1 : x.toInt < lo
  · exact Or.inl h1
  · by_cases h2 : hi < x.toInt
    · exact Or.inr h2
    · exact (h x.toInt (by omega) (by omega) (Int32.ofInt_toInt x).symm).elim
theorem fw_bd1 {n : Int32} {B : Nat} {b : Nat} (h : ¬ (n < 0 ∨ B < n.toNatClampNeg)) (hb : B * b ≤ 536870912 := by decide) : n.toNatClampNeg * b ≤ 536870912 := by
  have h1 : n.toNatClampNeg ≤ B := Nat.not_lt.mp (fun q => h (Or.inr q))
  exact Nat.le_trans (Nat.mul_le_mul_right b h1) hb
theorem fw_bd2 {n : Int32} {B s R : Nat} (h : ¬ (n < 0 ∨ B < n.toNatClampNeg)) (hb : s + B ≤ R) : s + n.toNatClampNeg ≤ R := by
  have h1 : n.toNatClampNeg ≤ B := Nat.not_lt.mp (fun q => h (Or.inr q))
  omega
theorem fw_bd3 {n : Int32} {B s : Nat} (h : ¬ (n < 0 ∨ B < n.toNatClampNeg)) : s + n.toNatClampNeg ≤ s + B := fw_bd2 h (Nat.le_refl _)
theorem fw_R.put {G : fw_G} {kd : Nat → Option Nat} {S S' : fw_S} {H H1 : Heap} {locs : List Loc} {a K i : Nat} (Rr : fw_R G kd S H locs) (hk : kd a = some K) (z : H1.size = H.size) (oq : ∀ q : Nat, q ≠ a → H1[q]? = H[q]?)
    (hS' : ∀ b, b ≠ a → fw_l S' b = fw_l S b ∧ fw_g S' b = fw_g S b ∧ fw_r S' b = fw_r S b) (hz : fw_z S' = fw_z S) (hW : fw_W kd S') (hat : va_at G.1 fw_cl (a, fw_cell G.2.1 K (fw_l S' a) (fw_g S' a) (fw_r S' a)) H1) : fw_R G kd S' H1 (locs ++ [⟨a, i⟩]) := by
  obtain ⟨r1, r2, r3, r4, r5, r6⟩ := Rr
  have hga := (r1 a K hk).1
  refine ⟨fun b K' hb => ?_, fun q hq => ?_, by rw [z]; exact r3, fun q hq => ?_, by rw [z, hz]; exact r5, hW⟩
  · by_cases hba : b = a
    · subst hba
      cases hk.symm.trans hb
      exact ⟨hga, hat⟩
    · obtain ⟨e1, e2, e3⟩ := hS' b hba
      rw [e1, e2, e3]
      exact ⟨(r1 b K' hb).1, (r1 b K' hb).2.kept (oq b hba)⟩
  · rw [oq q (by omega)]; exact r2 q hq
  · rcases List.mem_append.mp hq with h | h
    · exact r4 q h
    · rw [List.mem_singleton.mp h]; exact hga
theorem fw_W.wi {kd : Nat → Option Nat} {S : fw_S} {a k : Nat} {v : Int32} (h : fw_W kd S) : fw_W kd (fw_wi S a k v) := h
theorem fw_W.wr {kd : Nat → Option Nat} {S : fw_S} {a k K : Nat} {v : Option Nat} (h : fw_W kd S) (hk : kd a = some K) (hv : ∀ b, v = some b → ∀ K', fw_rt K k = some K' → kd b = some K') : fw_W kd (fw_wr S a k v) := by
  intro b Kb hb j x hx K' hK'
  rw [fw_r_wr] at hx
  by_cases hc : b = a ∧ j = k
  · rw [if_pos hc] at hx
    obtain ⟨rfl, rfl⟩ := hc
    cases hk.symm.trans hb
    exact hv x hx K' hK'
  · rw [if_neg hc] at hx
    exact h b Kb hb j x hx K' hK'
section FWR
variable {p : Program} {l : Launch} {e : Env} {Rm : Room} {s : State} {m : MethodId} {args : Array Value} {below : List Frame} {meth : Method} {c : Code} {H : Heap} {locs : List Loc} {cells slots : Nat} {Q : State → Prop} {G : fw_G} {own : String} {cc : ByteArray} {nL : Nat} {ret : Option FieldType} {kd : Nat → Option Nat} {S : fw_S} {pc : Nat} {ls : Array Slot} {rest : List Value} {a : Nat}
theorem fw_get (C : fw_C G own cc nL ret p s m args meth c) (Rr : fw_R G kd S H locs) {K k idx : Nat} {ty : FieldType} {fin : Bool} (F : fw_F own idx K k ty fin) (hk : kd a = some K) {v : Value} (hv : fw_fv K (fw_g S a) (fw_r S a) k = v) (hdg : decode cc pc = .ok (.getfield idx, 3))
    (kk : W p l e Rm s m args below meth c H locs cells slots Q (F0 m (pc + 3) ls (v :: rest))) : W p l e Rm s m args below meth c H locs cells slots Q (F0 m pc ls (.ref a :: rest)) := by
  obtain ⟨hx, hb, -, hown, hts, -, -, hK⟩ := C
  obtain ⟨Cn, T, N, ⟨hcl, hin, hN, hK1, -, -, hT⟩, hkN, -, -, hlk⟩ := F
  have hat := (Rr.1 a K hk).2
  have hP : va_P G.1 fw_cl [(a, .inr (K, fw_fl K (fw_g S a) (fw_r S a)))] H := by
    intro i q hi
    cases i with
    | zero => cases hi; simpa [fw_cell, hK1] using hat
    | succ i => simp at hi
  have hf : (fw_fl K (fw_g S a) (fw_r S a))[k]? = some v := by subst hv; simp [fw_fl, ← hN, hkN]
  have hTk := hT k hkN
  rcases hlk with h | ⟨host, h⟩
  · exact va_get hx hb hts hin hown hK.1 hP 0 rfl hcl k hkN (hts _ h) (fun x h9 => by rw [hTk] at h9; exact h9) hf hdg kk
  · exact va_getN hx hb hts hin hown hK.1 hP 0 rfl hcl k hkN (va_Nw.use rfl (hK.2.1 _ h)) (fun x h9 => by rw [hTk] at h9; exact h9) hf hdg kk
theorem fw_getr (C : fw_C G own cc nL ret p s m args meth c) (Rr : fw_R G kd S H locs) {K k K' idx : Nat} {ty : FieldType} {fin : Bool} (F : fw_F own idx K k ty fin) (hk : kd a = some K) (hv : fw_fv K (fw_g S a) (fw_r S a) k = va_rf (fw_r S a k)) (hrt : fw_rt K k = some K') (hdg : decode cc pc = .ok (.getfield idx, 3))
    (k0 : fw_r S a k = none → W p l e Rm s m args below meth c H locs cells slots Q (F0 m (pc + 3) ls (.null :: rest))) (k1 : ∀ b, fw_r S a k = some b → kd b = some K' → W p l e Rm s m args below meth c H locs cells slots Q (F0 m (pc + 3) ls (.ref b :: rest))) : W p l e Rm s m args below meth c H locs cells slots Q (F0 m pc ls (.ref a :: rest)) := by
  refine fw_get C Rr F hk hv hdg ?_
  cases hq : fw_r S a k with
  | none => exact k0 hq
  | some b => exact k1 b hq (Rr.2.2.2.2.2 a K hk k b hq K' hrt)
theorem fw_putG (C : fw_C G own cc nL ret p s m args meth c) (Rr : fw_R G kd S H locs) {K k idx : Nat} {ty : FieldType} {v : Value} (F : fw_F own idx K k ty false) (hk : kd a = some K) (hn : narrow ty v = v) (hfit : fits ty v = true) (S' : fw_S)
    (hset : (fw_fl K (fw_g S a) (fw_r S a)).set k v = fw_fl K (fw_g S' a) (fw_r S' a)) (hS' : ∀ b, b ≠ a → fw_l S' b = fw_l S b ∧ fw_g S' b = fw_g S b ∧ fw_r S' b = fw_r S b) (hz : fw_z S' = fw_z S) (hW : fw_W kd S') (hdg : decode cc pc = .ok (.putfield idx, 3))
    (kk : ∀ (H1 : Heap) (locs1 : List Loc), fw_R G kd S' H1 locs1 → W p l e Rm s m args below meth c H1 locs1 cells slots Q (F0 m (pc + 3) ls rest)) : W p l e Rm s m args below meth c H locs cells slots Q (F0 m pc ls (v :: .ref a :: rest)) := by
  obtain ⟨hx, hb, -, hown, hts, -, -, hK⟩ := C
  obtain ⟨Cn, T, N, ⟨hcl, hin, hN, hK1, ⟨ty0, hty⟩, hnm, hT⟩, hkN, hd, hfin, hlk⟩ := F
  have hat := (Rr.1 a K hk).2
  rw [show fw_cell G.2.1 K (fw_l S a) (fw_g S a) (fw_r S a) = .inr (K, fw_fl K (fw_g S a) (fw_r S a)) by simp [fw_cell, hK1]] at hat
  have hap := va_apart (own := own) hts hin ty0 hty hnm hK.1 hcl
  obtain ⟨r, h1, cell, q1, q2, q3, q4⟩ := hat
  have hr : r = (Cn, T, N) := Option.some.inj (h1.symm.trans hcl)
  subst hr
  obtain ⟨hS, hfc, kC, hkC, hkind⟩ := hK.1.1 K _ hcl
  obtain ⟨cf, kf, fi, f, hi, hsl⟩ := hS k hkN
  have hlay := hts _ (hin _ (u_in_lay hkN))
  unfold u_lay at hlay
  rw [if_neg (by rw [hfin]; decide)] at hlay
  have hst := (u_facts hfc hkC (u_lays hts hin hkN) hi).1
  have h6 := u_store hfc hkC hkind hlay hi hd hn hfit
  have hl : k < (fw_fl K (fw_g S a) (fw_r S a)).length := by simp [fw_fl, ← hN, hkN]
  have hTk := hT k hkN
  have hi2 : s.fieldFound? Cn (T k).2.1 (T k).2.2.1 = some (cf, kf, fi, f) := by rw [hTk] at hi; exact hi
  have done : ∀ H' : Heap, H'[a]? = some (cell.setSlot f.slot v) → H'.size = H.size → (∀ q, q ≠ a → H'[q]? = H[q]?) → fw_R G kd S' H' (locs ++ [⟨a, f.slot⟩]) := by
    intro H' e1 e2 e3
    rw [hsl] at e1 ⊢
    refine Rr.put hk e2 e3 hS' hz hW ?_
    rw [show fw_cell G.2.1 K (fw_l S' a) (fw_g S' a) (fw_r S' a) = .inr (K, (fw_fl K (fw_g S a) (fw_r S a)).set k v) by rw [hset]; simp [fw_cell, hK1]]
    exact ⟨_, hcl, t_OB.to (V := updV (vp_V (fw_fl K (fw_g S a) (fw_r S a))) k v) ⟨_, e1, q2, q3, t_set q4 hap hkN v⟩ (fun j _ => vp_updV_set hl v j)⟩
  rcases hlk with h | ⟨host, h⟩
  · exact W.putK hx hb (f := f) ⟨hown, hts _ h, ⟨_, _, _, hi2⟩, hst⟩ (by rw [q2]; exact h6) q1 q3 (by rw [hsl]; exact k2_hasslot (q4 k hkN)) rfl rfl hdg fun H' e1 e2 e3 => kk H' _ (done H' e1 e2 e3)
  · exact va_WputK hx hb (f := f) hown (va_Nw.use rfl (hK.2.1 _ h)) hi2 hst (by rw [q2]; exact h6) q1 q3 (by rw [hsl]; exact k2_hasslot (q4 k hkN)) rfl rfl hdg fun H' e1 e2 e3 => kk H' _ (done H' e1 e2 e3)
theorem fw_putFG (C : fw_C G own cc nL ret p s m args meth c) (hin2 : meth.name = "<init>") (Rr : fw_R G kd S H locs) {K k idx : Nat} {ty : FieldType} {v : Value} (F : fw_F own idx K k ty true) (hown2 : fw_cl[K]?.map (fun q => q.1) = some own) (hk : kd a = some K) (hn : narrow ty v = v) (hfit : fits ty v = true) (S' : fw_S)
    (hset : (fw_fl K (fw_g S a) (fw_r S a)).set k v = fw_fl K (fw_g S' a) (fw_r S' a)) (hS' : ∀ b, b ≠ a → fw_l S' b = fw_l S b ∧ fw_g S' b = fw_g S b ∧ fw_r S' b = fw_r S b) (hz : fw_z S' = fw_z S) (hW : fw_W kd S') (hdg : decode cc pc = .ok (.putfield idx, 3)) (hlw : ∀ host Cn nm d, Cond.fieldLinkNest own idx Cn nm d host ∉ fw_NS)
    (kk : ∀ (H1 : Heap) (locs1 : List Loc), fw_R G kd S' H1 locs1 → W p l e Rm s m args below meth c H1 locs1 cells slots Q (F0 m (pc + 3) ls rest)) : W p l e Rm s m args below meth c H locs cells slots Q (F0 m pc ls (v :: .ref a :: rest)) := by
  obtain ⟨hx, hb, -, hown, hts, -, -, hK⟩ := C
  obtain ⟨Cn, T, N, ⟨hcl, hin, hN, hK1, ⟨ty0, hty⟩, hnm, hT⟩, hkN, hd, hfin, hlk⟩ := F
  have hCo : Cn = own := by rw [hcl] at hown2; exact Option.some.inj hown2
  have hat := (Rr.1 a K hk).2
  rw [show fw_cell G.2.1 K (fw_l S a) (fw_g S a) (fw_r S a) = .inr (K, fw_fl K (fw_g S a) (fw_r S a)) by simp [fw_cell, hK1]] at hat
  have hap := va_apart (own := own) hts hin ty0 hty hnm hK.1 hcl
  obtain ⟨r, h1, cell, q1, q2, q3, q4⟩ := hat
  have hr : r = (Cn, T, N) := Option.some.inj (h1.symm.trans hcl)
  subst hr
  obtain ⟨hS, hfc, kC, hkC, hkind⟩ := hK.1.1 K _ hcl
  obtain ⟨cf, kf, fi, f, hi, hsl⟩ := hS k hkN
  have hlay := hts _ (hin _ (u_in_lay hkN))
  unfold u_lay at hlay
  rw [if_pos hfin] at hlay
  have hst := (u_facts hfc hkC (u_lays hts hin hkN) hi).1
  have hTk := hT k hkN
  have hcf : m.cls = cf := by
    obtain ⟨_, _, c', _, _, _, -, -, hf', -, -, -, hown3, -⟩ := Cond.laysFinal_spec hlay
    have e1 : c' = cf := by have := hi.symm.trans hf'; simp at this; exact this.1.symm
    rw [hTk, hCo] at hown3
    rw [← e1]; exact Option.some.inj (hown.symm.trans hown3)
  have h6 := u_fits hfc hkC hkind (Or.inr hlay) hi hd hn hfit
  have hl : k < (fw_fl K (fw_g S a) (fw_r S a)).length := by simp [fw_fl, ← hN, hkN]
  have hi2 : s.fieldFound? Cn (T k).2.1 (T k).2.2.1 = some (cf, kf, fi, f) := by rw [hTk] at hi; exact hi
  rcases hlk with h | ⟨host, h⟩
  · refine W.putFinK hx hb hown (hts _ h) hi2 hst hcf hin2 (by rw [q2]; exact h6) q1 q3 (by rw [hsl]; exact k2_hasslot (q4 k hkN)) rfl rfl hdg fun H' e1 e2 e3 => kk H' _ ?_
    rw [hsl] at e1 ⊢
    refine Rr.put hk e2 e3 hS' hz hW ?_
    rw [show fw_cell G.2.1 K (fw_l S' a) (fw_g S' a) (fw_r S' a) = .inr (K, (fw_fl K (fw_g S a) (fw_r S a)).set k v) by rw [hset]; simp [fw_cell, hK1]]
    exact ⟨_, hcl, t_OB.to (V := updV (vp_V (fw_fl K (fw_g S a) (fw_r S a))) k v) ⟨_, e1, q2, q3, t_set q4 hap hkN v⟩ (fun j _ => vp_updV_set hl v j)⟩
  · exact absurd h (hlw _ _ _ _)
theorem fw_wi_keep {S : fw_S} {a k : Nat} {v : Int32} : ∀ b, b ≠ a → fw_l (fw_wi S a k v) b = fw_l S b ∧ fw_g (fw_wi S a k v) b = fw_g S b ∧ fw_r (fw_wi S a k v) b = fw_r S b := fun _ h => ⟨rfl, fw_g_wi_ne h, rfl⟩
theorem fw_wr_keep {S : fw_S} {a k : Nat} {v : Option Nat} : ∀ b, b ≠ a → fw_l (fw_wr S a k v) b = fw_l S b ∧ fw_g (fw_wr S a k v) b = fw_g S b ∧ fw_r (fw_wr S a k v) b = fw_r S b := fun _ h => ⟨rfl, rfl, fw_r_wr_ne h⟩
theorem fw_puti (C : fw_C G own cc nL ret p s m args meth c) (Rr : fw_R G kd S H locs) {K k idx : Nat} {v : Int32} (F : fw_F own idx K k .int false) (hf : (fw_ft K)[k]? = some none) (hk : kd a = some K) (hdg : decode cc pc = .ok (.putfield idx, 3))
    (kk : ∀ (H1 : Heap) (locs1 : List Loc), fw_R G kd (fw_wi S a k v) H1 locs1 → W p l e Rm s m args below meth c H1 locs1 cells slots Q (F0 m (pc + 3) ls rest)) : W p l e Rm s m args below meth c H locs cells slots Q (F0 m pc ls (.int v :: .ref a :: rest)) :=
  fw_putG C Rr F hk rfl rfl (fw_wi S a k v) (by rw [fw_fl_i hf, fw_g_wi_self]; rfl) fw_wi_keep rfl Rr.2.2.2.2.2.wi hdg kk
theorem fw_z01 {v : Int32} (h : v = 0 ∨ v = 1) : narrow .boolean (.int v) = .int v ∧ fits .boolean (.int v) = true := by
  rcases h with rfl | rfl <;> exact ⟨by decide, by decide⟩
theorem fw_putz (C : fw_C G own cc nL ret p s m args meth c) (Rr : fw_R G kd S H locs) {K k idx : Nat} {v : Int32} (F : fw_F own idx K k .boolean false) (hf : (fw_ft K)[k]? = some none) (hv : v = 0 ∨ v = 1) (hk : kd a = some K) (hdg : decode cc pc = .ok (.putfield idx, 3))
    (kk : ∀ (H1 : Heap) (locs1 : List Loc), fw_R G kd (fw_wi S a k v) H1 locs1 → W p l e Rm s m args below meth c H1 locs1 cells slots Q (F0 m (pc + 3) ls rest)) : W p l e Rm s m args below meth c H locs cells slots Q (F0 m pc ls (.int v :: .ref a :: rest)) :=
  fw_putG C Rr F hk (fw_z01 hv).1 (fw_z01 hv).2 (fw_wi S a k v) (by rw [fw_fl_i hf, fw_g_wi_self]; rfl) fw_wi_keep rfl Rr.2.2.2.2.2.wi hdg kk
theorem fw_putr (C : fw_C G own cc nL ret p s m args meth c) (Rr : fw_R G kd S H locs) {K k K' idx b : Nat} {ty : FieldType} (F : fw_F own idx K k ty false) (hty : fits ty (.ref b) = true) (hf : (fw_ft K)[k]? = some (some K')) (hK1 : K < 100) (hb : kd b = some K') (hk : kd a = some K) (hdg : decode cc pc = .ok (.putfield idx, 3))
    (kk : ∀ (H1 : Heap) (locs1 : List Loc), fw_R G kd (fw_wr S a k (some b)) H1 locs1 → W p l e Rm s m args below meth c H1 locs1 cells slots Q (F0 m (pc + 3) ls rest)) : W p l e Rm s m args below meth c H locs cells slots Q (F0 m pc ls (.ref b :: .ref a :: rest)) :=
  fw_putG C Rr F hk (by cases ty <;> first | rfl | cases hty) hty (fw_wr S a k (some b)) (by rw [show Value.ref b = va_rf (some b) from rfl, fw_fl_r hf, fw_r_wr_self]; rfl) fw_wr_keep rfl (Rr.2.2.2.2.2.wr hk (fun x hx K2 h2 => by cases hx; simp [fw_rt, hK1, hf] at h2; rw [← h2]; exact hb)) hdg kk
theorem fw_putFi (C : fw_C G own cc nL ret p s m args meth c) (hin2 : meth.name = "<init>") (Rr : fw_R G kd S H locs) {K k idx : Nat} {v : Int32} (F : fw_F own idx K k .int true) (hown2 : fw_cl[K]?.map (fun q => q.1) = some own) (hlw : ∀ host Cn nm d, Cond.fieldLinkNest own idx Cn nm d host ∉ fw_NS) (hf : (fw_ft K)[k]? = some none) (hk : kd a = some K) (hdg : decode cc pc = .ok (.putfield idx, 3))
    (kk : ∀ (H1 : Heap) (locs1 : List Loc), fw_R G kd (fw_wi S a k v) H1 locs1 → W p l e Rm s m args below meth c H1 locs1 cells slots Q (F0 m (pc + 3) ls rest)) : W p l e Rm s m args below meth c H locs cells slots Q (F0 m pc ls (.int v :: .ref a :: rest)) :=
  fw_putFG C hin2 Rr F hown2 hk rfl rfl (fw_wi S a k v) (by rw [fw_fl_i hf, fw_g_wi_self]; rfl) fw_wi_keep rfl Rr.2.2.2.2.2.wi hdg hlw kk
theorem fw_putFz (C : fw_C G own cc nL ret p s m args meth c) (hin2 : meth.name = "<init>") (Rr : fw_R G kd S H locs) {K k idx : Nat} {v : Int32} (F : fw_F own idx K k .boolean true) (hown2 : fw_cl[K]?.map (fun q => q.1) = some own) (hlw : ∀ host Cn nm d, Cond.fieldLinkNest own idx Cn nm d host ∉ fw_NS) (hf : (fw_ft K)[k]? = some none) (hv : v = 0 ∨ v = 1) (hk : kd a = some K) (hdg : decode cc pc = .ok (.putfield idx, 3))
    (kk : ∀ (H1 : Heap) (locs1 : List Loc), fw_R G kd (fw_wi S a k v) H1 locs1 → W p l e Rm s m args below meth c H1 locs1 cells slots Q (F0 m (pc + 3) ls rest)) : W p l e Rm s m args below meth c H locs cells slots Q (F0 m pc ls (.int v :: .ref a :: rest)) :=
  fw_putFG C hin2 Rr F hown2 hk (fw_z01 hv).1 (fw_z01 hv).2 (fw_wi S a k v) (by rw [fw_fl_i hf, fw_g_wi_self]; rfl) fw_wi_keep rfl Rr.2.2.2.2.2.wi hdg hlw kk
theorem fw_putFr (C : fw_C G own cc nL ret p s m args meth c) (hin2 : meth.name = "<init>") (Rr : fw_R G kd S H locs) {K k K' idx b : Nat} {ty : FieldType} (F : fw_F own idx K k ty true) (hown2 : fw_cl[K]?.map (fun q => q.1) = some own) (hlw : ∀ host Cn nm d, Cond.fieldLinkNest own idx Cn nm d host ∉ fw_NS) (hty : fits ty (.ref b) = true) (hf : (fw_ft K)[k]? = some (some K')) (hK1 : K < 100) (hb : kd b = some K') (hk : kd a = some K) (hdg : decode cc pc = .ok (.putfield idx, 3))
    (kk : ∀ (H1 : Heap) (locs1 : List Loc), fw_R G kd (fw_wr S a k (some b)) H1 locs1 → W p l e Rm s m args below meth c H1 locs1 cells slots Q (F0 m (pc + 3) ls rest)) : W p l e Rm s m args below meth c H locs cells slots Q (F0 m pc ls (.ref b :: .ref a :: rest)) :=
  fw_putFG C hin2 Rr F hown2 hk (by cases ty <;> first | rfl | cases hty) hty (fw_wr S a k (some b)) (by rw [show Value.ref b = va_rf (some b) from rfl, fw_fl_r hf, fw_r_wr_self]; rfl) fw_wr_keep rfl (Rr.2.2.2.2.2.wr hk (fun x hx K2 h2 => by cases hx; simp [fw_rt, hK1, hf] at h2; rw [← h2]; exact hb)) hdg hlw kk
-- arrays
theorem fw_tyAt {U : State} (hK : fw_K G U) {K : Nat} {ty : FieldType} (ht : (K, ty) ∈ fw_tys) : ArrOfT U (G.2.1 K) ty ∧ va_RA U (G.2.1 K) ty := by
  obtain ⟨i, hi⟩ := List.getElem?_of_mem ht
  exact hK.1.2 i (G.2.1 K, ty) (by unfold fw_T; rw [List.getElem?_map, hi]; rfl)
theorem fw_iald (C : fw_C G own cc nL ret p s m args meth c) (Rr : fw_R G kd S H locs) (ht : (100, FieldType.int) ∈ fw_tys) (hk : kd a = some 100) {i : Int32} (hin : ¬ (i < 0 ∨ fw_l S a ≤ i.toNatClampNeg)) (hdg : decode cc pc = .ok (.iaload, 1))
    (kk : W p l e Rm s m args below meth c H locs cells slots Q (F0 m (pc + 1) ls (.int (fw_g S a i.toNatClampNeg) :: rest))) : W p l e Rm s m args below meth c H locs cells slots Q (F0 m pc ls (.int i :: .ref a :: rest)) := by
  have hat := (Rr.1 a 100 hk).2
  have hlt : i.toNatClampNeg < fw_l S a := Nat.not_le.mp fun q => hin (Or.inr q)
  exact W.iald (v := .int (fw_g S a i.toNatClampNeg)) C.1 C.2.1 hat ((fw_tyAt C.2.2.2.2.2.2.2 ht).1 (fw_l S a) (fun j => .int (fw_g S a j))) (fun q => by cases q) (by show ¬ (i < 0 ∨ (arrV _ _ _).slots.size ≤ _); rw [arrV_size]; exact hin) (by show (arrV _ _ _).slots[_]? = _; rw [arrV_read _ _ hlt]) rfl rfl hdg kk
theorem fw_zald (C : fw_C G own cc nL ret p s m args meth c) (Rr : fw_R G kd S H locs) (ht : (101, FieldType.boolean) ∈ fw_tys) (hk : kd a = some 101) {i : Int32} (hin : ¬ (i < 0 ∨ fw_l S a ≤ i.toNatClampNeg)) (hdg : decode cc pc = .ok (.baload, 1))
    (kk : W p l e Rm s m args below meth c H locs cells slots Q (F0 m (pc + 1) ls (.int (fw_g S a i.toNatClampNeg) :: rest))) : W p l e Rm s m args below meth c H locs cells slots Q (F0 m pc ls (.int i :: .ref a :: rest)) := by
  have hat := (Rr.1 a 101 hk).2
  have hlt : i.toNatClampNeg < fw_l S a := Nat.not_le.mp fun q => hin (Or.inr q)
  exact W.zald (v := .int (fw_g S a i.toNatClampNeg)) C.1 C.2.1 hat ((fw_tyAt C.2.2.2.2.2.2.2 ht).1 (fw_l S a) (fun j => .int (fw_g S a j))) (fun q => by cases q) (by show ¬ (i < 0 ∨ (arrV _ _ _).slots.size ≤ _); rw [arrV_size]; exact hin) (by show (arrV _ _ _).slots[_]? = _; rw [arrV_read _ _ hlt]) rfl rfl hdg kk
theorem fw_aald (C : fw_C G own cc nL ret p s m args meth c) (Rr : fw_R G kd S H locs) {K : Nat} {ty : FieldType} (ht : (200 + K, ty) ∈ fw_tys) (hty : ty.isReference = true) (hk : kd a = some (200 + K)) {i : Int32} (hin : ¬ (i < 0 ∨ fw_l S a ≤ i.toNatClampNeg)) (hdg : decode cc pc = .ok (.aaload, 1))
    (kk : W p l e Rm s m args below meth c H locs cells slots Q (F0 m (pc + 1) ls (va_rf (fw_r S a i.toNatClampNeg) :: rest))) : W p l e Rm s m args below meth c H locs cells slots Q (F0 m pc ls (.int i :: .ref a :: rest)) := by
  have hat := (Rr.1 a _ hk).2
  rw [show fw_cell G.2.1 (200 + K) (fw_l S a) (fw_g S a) (fw_r S a) = .inl (G.2.1 (200 + K), fw_l S a, .inr (.inr (.inr (.inr (fw_r S a))))) by simp [fw_cell, show ¬ 200 + K < 100 by omega, show ¬ 200 + K < 200 by omega]] at hat
  have hlt : i.toNatClampNeg < fw_l S a := Nat.not_le.mp fun q => hin (Or.inr q)
  exact W.aald (v := va_rf (fw_r S a i.toNatClampNeg)) (ty := ty) C.1 C.2.1 hat ((fw_tyAt C.2.2.2.2.2.2.2 ht).1 (fw_l S a) (fun j => va_rf (fw_r S a j))) hty (fun q => by cases q) (by show ¬ (i < 0 ∨ (arrV _ _ _).slots.size ≤ _); rw [arrV_size]; exact hin) (by show (arrV _ _ _).slots[_]? = _; rw [arrV_read _ _ hlt]) rfl rfl hdg kk
theorem fw_aaldr (C : fw_C G own cc nL ret p s m args meth c) (Rr : fw_R G kd S H locs) {K : Nat} {ty : FieldType} (ht : (200 + K, ty) ∈ fw_tys) (hty : ty.isReference = true) (hk : kd a = some (200 + K)) {i : Int32} (hin : ¬ (i < 0 ∨ fw_l S a ≤ i.toNatClampNeg)) (hdg : decode cc pc = .ok (.aaload, 1))
    (k0 : fw_r S a i.toNatClampNeg = none → W p l e Rm s m args below meth c H locs cells slots Q (F0 m (pc + 1) ls (.null :: rest))) (k1 : ∀ b, fw_r S a i.toNatClampNeg = some b → kd b = some K → W p l e Rm s m args below meth c H locs cells slots Q (F0 m (pc + 1) ls (.ref b :: rest))) : W p l e Rm s m args below meth c H locs cells slots Q (F0 m pc ls (.int i :: .ref a :: rest)) := by
  refine fw_aald C Rr ht hty hk hin hdg ?_
  cases hq : fw_r S a i.toNatClampNeg with
  | none => exact k0 hq
  | some b => exact k1 b hq (Rr.2.2.2.2.2 a _ hk _ b hq K (by simp [fw_rt, show ¬ 200 + K < 100 by omega]))
theorem fw_alen (C : fw_C G own cc nL ret p s m args meth c) (Rr : fw_R G kd S H locs) {K : Nat} {ty : FieldType} (ht : (K, ty) ∈ fw_tys) (hK1 : ¬ K < 100) (hk : kd a = some K) (hdg : decode cc pc = .ok (.arraylength, 1))
    (kk : W p l e Rm s m args below meth c H locs cells slots Q (F0 m (pc + 1) ls (.int (nI (fw_l S a)) :: rest))) : W p l e Rm s m args below meth c H locs cells slots Q (F0 m pc ls (.ref a :: rest)) := by
  have hat := (Rr.1 a _ hk).2
  have hA := (fw_tyAt C.2.2.2.2.2.2.2 ht).1
  by_cases h2 : K < 200
  · rw [show fw_cell G.2.1 K (fw_l S a) (fw_g S a) (fw_r S a) = .inl (G.2.1 K, fw_l S a, .inl (fw_g S a)) by simp [fw_cell, hK1, h2]] at hat
    exact W.alen (n := nI (fw_l S a)) C.1 C.2.1 hat (hA (fw_l S a) (fun j => .int (fw_g S a j))) (by rw [vp_cell_i, arrV_size] <;> rfl) rfl rfl hdg kk
  · rw [show fw_cell G.2.1 K (fw_l S a) (fw_g S a) (fw_r S a) = .inl (G.2.1 K, fw_l S a, .inr (.inr (.inr (.inr (fw_r S a))))) by simp [fw_cell, hK1, h2]] at hat
    exact W.alen (n := nI (fw_l S a)) C.1 C.2.1 hat (hA (fw_l S a) (fun j => va_rf (fw_r S a j))) (by rw [vp_cell_q, arrV_size] <;> rfl) rfl rfl hdg kk
theorem fw_iast (C : fw_C G own cc nL ret p s m args meth c) (Rr : fw_R G kd S H locs) (ht : (100, FieldType.int) ∈ fw_tys) (hk : kd a = some 100) {i x : Int32} (hin : ¬ (i < 0 ∨ fw_l S a ≤ i.toNatClampNeg)) (hdg : decode cc pc = .ok (.iastore, 1))
    (kk : ∀ (H1 : Heap) (locs1 : List Loc), fw_R G kd (fw_wi S a i.toNatClampNeg x) H1 locs1 → W p l e Rm s m args below meth c H1 locs1 cells slots Q (F0 m (pc + 1) ls rest)) : W p l e Rm s m args below meth c H locs cells slots Q (F0 m pc ls (.int x :: .int i :: .ref a :: rest)) := by
  have hat := (Rr.1 a 100 hk).2
  refine W.iast C.1 C.2.1 hat ((fw_tyAt C.2.2.2.2.2.2.2 ht).1 (fw_l S a) (fun j => .int (fw_g S a j))) (fun q => by cases q) (by show ¬ (i < 0 ∨ (arrV _ _ _).slots.size ≤ _); rw [arrV_size]; exact hin) rfl rfl hdg fun H1 e z oq => kk H1 _ (Rr.put hk z oq fw_wi_keep rfl Rr.2.2.2.2.2.wi ?_)
  show H1[a]? = some (vp_cell _ _)
  rw [e, fw_g_wi_self]
  show some ((vp_cell (G.2.1 100) (fw_l S a, .inl (fw_g S a))).setSlot _ _) = some (vp_cell (G.2.1 100) (fw_l S a, .inl (va_up (fw_g S a) i.toNatClampNeg x)))
  rw [vp_cell_i, vp_cell_i, arrV_store]
  congr 2
  funext q
  by_cases hq : q = i.toNatClampNeg
  · subst hq
    simp [updV, va_up]
  · simp [updV, va_up, hq]
theorem fw_zast (C : fw_C G own cc nL ret p s m args meth c) (Rr : fw_R G kd S H locs) (ht : (101, FieldType.boolean) ∈ fw_tys) (hk : kd a = some 101) {i x : Int32} (hv : x = 0 ∨ x = 1) (hin : ¬ (i < 0 ∨ fw_l S a ≤ i.toNatClampNeg)) (hdg : decode cc pc = .ok (.bastore, 1))
    (kk : ∀ (H1 : Heap) (locs1 : List Loc), fw_R G kd (fw_wi S a i.toNatClampNeg x) H1 locs1 → W p l e Rm s m args below meth c H1 locs1 cells slots Q (F0 m (pc + 1) ls rest)) : W p l e Rm s m args below meth c H locs cells slots Q (F0 m pc ls (.int x :: .int i :: .ref a :: rest)) := by
  have hat := (Rr.1 a 101 hk).2
  refine W.zast C.1 C.2.1 hat ((fw_tyAt C.2.2.2.2.2.2.2 ht).1 (fw_l S a) (fun j => .int (fw_g S a j))) (fun q => by cases q) (by show ¬ (i < 0 ∨ (arrV _ _ _).slots.size ≤ _); rw [arrV_size]; exact hin) rfl rfl hdg fun H1 e z oq => kk H1 _ (Rr.put hk z oq fw_wi_keep rfl Rr.2.2.2.2.2.wi ?_)
  show H1[a]? = some (vp_cell _ _)
  rw [e, (fw_z01 hv).1, fw_g_wi_self]
  show some ((vp_cell (G.2.1 101) (fw_l S a, .inl (fw_g S a))).setSlot _ _) = some (vp_cell (G.2.1 101) (fw_l S a, .inl (va_up (fw_g S a) i.toNatClampNeg x)))
  rw [vp_cell_i, vp_cell_i, arrV_store]
  congr 2
  funext q
  by_cases hq : q = i.toNatClampNeg
  · subst hq
    simp [updV, va_up]
  · simp [updV, va_up, hq]
theorem fw_aast (C : fw_C G own cc nL ret p s m args meth c) (Rr : fw_R G kd S H locs) {K v : Nat} {q : vw_C} (hcl : fw_cl[K]? = some q) (hK1 : K < 100) (ht : (200 + K, FieldType.object q.1) ∈ fw_tys) (hk : kd a = some (200 + K)) (hkv : kd v = some K) {i : Int32} (hin : ¬ (i < 0 ∨ fw_l S a ≤ i.toNatClampNeg)) (hdg : decode cc pc = .ok (.aastore, 1))
    (kk : ∀ (H1 : Heap) (locs1 : List Loc), fw_R G kd (fw_wr S a i.toNatClampNeg (some v)) H1 locs1 → W p l e Rm s m args below meth c H1 locs1 cells slots Q (F0 m (pc + 1) ls rest)) : W p l e Rm s m args below meth c H locs cells slots Q (F0 m pc ls (.ref v :: .int i :: .ref a :: rest)) := by
  have hat := (Rr.1 a _ hk).2
  rw [show fw_cell G.2.1 (200 + K) (fw_l S a) (fw_g S a) (fw_r S a) = .inl (G.2.1 (200 + K), fw_l S a, .inr (.inr (.inr (.inr (fw_r S a))))) by simp [fw_cell, show ¬ 200 + K < 100 by omega, show ¬ 200 + K < 200 by omega]] at hat
  have hvt := (Rr.1 v K hkv).2
  rw [show fw_cell G.2.1 K (fw_l S v) (fw_g S v) (fw_r S v) = .inr (K, fw_fl K (fw_g S v) (fw_r S v)) by simp [fw_cell, hK1]] at hvt
  obtain ⟨r', hr', cellV, g1, g2, g3, -⟩ := hvt
  have hKs := C.2.2.2.2.2.2.2
  have hlt : i.toNatClampNeg < fw_l S a := Nat.not_le.mp fun q => hin (Or.inr q)
  have h0 : ¬ i < 0 := fun q => hin (Or.inl q)
  have hcls := (hKs.1.1 K q hcl).2
  obtain ⟨kA, comp, k1, k2, k3, -⟩ := (fw_tyAt hKs ht).2
  have hcomp : comp = G.1.1 K := Option.some.inj (k3.symm.trans hcls.1)
  subst hcomp
  obtain ⟨kC, hkC, -⟩ := id hcls.2
  refine W.aast C.1 C.2.1 hat (fun q h => by cases h) (fun h => by cases h) k1 k2 rfl hkC ⟨h0, by show _ < (arrV _ _ _).slots.size; rw [arrV_size]; exact hlt⟩ g1 (fun q h => by rw [g3] at h; cases h) (by rw [g2]; exact hkC) (by rw [g2]; exact va_assign hcls) rfl rfl hdg fun H1 e z oq => kk H1 _ (Rr.put hk z oq fw_wr_keep rfl (Rr.2.2.2.2.2.wr hk (fun x hx K2 h2 => by cases hx; simp [fw_rt, show ¬ 200 + K < 100 by omega] at h2; rw [← h2]; exact hkv)) ?_)
  rw [show fw_cell G.2.1 (200 + K) (fw_l (fw_wr S a i.toNatClampNeg (some v)) a) (fw_g (fw_wr S a i.toNatClampNeg (some v)) a) (fw_r (fw_wr S a i.toNatClampNeg (some v)) a) = .inl (G.2.1 (200 + K), fw_l S a, .inr (.inr (.inr (.inr (va_up (fw_r S a) i.toNatClampNeg (some v)))))) by rw [fw_r_wr_self]; simp [fw_cell, show ¬ 200 + K < 100 by omega, show ¬ 200 + K < 200 by omega]; rfl]
  show H1[a]? = some (vp_cell _ _)
  rw [e]
  rw [vp_cell_q, vp_cell_q, arrV_store]
  congr 2
  funext q
  by_cases hq : q = i.toNatClampNeg
  · subst hq
    simp [updV, va_up, va_rf]
  · simp [updV, va_up, hq]
theorem fw_aastN (C : fw_C G own cc nL ret p s m args meth c) (Rr : fw_R G kd S H locs) {K : Nat} {Cn : String} (ht : (200 + K, FieldType.object Cn) ∈ fw_tys) (hk : kd a = some (200 + K)) {i : Int32} (hin : ¬ (i < 0 ∨ fw_l S a ≤ i.toNatClampNeg)) (hdg : decode cc pc = .ok (.aastore, 1))
    (kk : ∀ (H1 : Heap) (locs1 : List Loc), fw_R G kd (fw_wr S a i.toNatClampNeg none) H1 locs1 → W p l e Rm s m args below meth c H1 locs1 cells slots Q (F0 m (pc + 1) ls rest)) : W p l e Rm s m args below meth c H locs cells slots Q (F0 m pc ls (.null :: .int i :: .ref a :: rest)) := by
  have hat := (Rr.1 a _ hk).2
  rw [show fw_cell G.2.1 (200 + K) (fw_l S a) (fw_g S a) (fw_r S a) = .inl (G.2.1 (200 + K), fw_l S a, .inr (.inr (.inr (.inr (fw_r S a))))) by simp [fw_cell, show ¬ 200 + K < 100 by omega, show ¬ 200 + K < 200 by omega]] at hat
  refine va_WaastN (C := Cn) C.1 C.2.1 hat ((fw_tyAt C.2.2.2.2.2.2.2 ht).1 (fw_l S a) (fun j => va_rf (fw_r S a j))) (fun h => by cases h) (by show ¬ (i < 0 ∨ (arrV _ _ _).slots.size ≤ _); rw [arrV_size]; exact hin) rfl rfl hdg fun H1 e z oq => kk H1 _ (Rr.put hk z oq fw_wr_keep rfl (Rr.2.2.2.2.2.wr hk (fun x hx K2 h2 => by cases hx)) ?_)
  rw [show fw_cell G.2.1 (200 + K) (fw_l (fw_wr S a i.toNatClampNeg none) a) (fw_g (fw_wr S a i.toNatClampNeg none) a) (fw_r (fw_wr S a i.toNatClampNeg none) a) = .inl (G.2.1 (200 + K), fw_l S a, .inr (.inr (.inr (.inr (va_up (fw_r S a) i.toNatClampNeg none))))) by rw [fw_r_wr_self]; simp [fw_cell, show ¬ 200 + K < 100 by omega, show ¬ 200 + K < 200 by omega]; rfl]
  show H1[a]? = some (vp_cell _ _)
  rw [e]
  rw [vp_cell_q, vp_cell_q, arrV_store]
  congr 2
  funext q
  by_cases hq : q = i.toNatClampNeg
  · subst hq
    simp [updV, va_up, va_rf]
  · simp [updV, va_up, hq]
-- what is made
theorem fw_R.made {H1 : Heap} {K n : Nat} (Rr : fw_R G kd S H locs) (z : H1.size = H.size + 1) (oq : ∀ q : Nat, q < H.size → H1[q]? = H[q]?) (hat : va_at G.1 fw_cl (H.size, fw_cell G.2.1 K n (fun _ => 0) (fun _ => none)) H1) :
    ∃ kd', fw_X kd kd' ∧ kd' (fw_z S) = some K ∧ fw_R G kd' (fw_nw S n) H1 locs := by
  obtain ⟨r1, r2, r3, r4, r5, r6⟩ := Rr
  have hlt : ∀ a K, kd a = some K → a < H.size := fun a K h => (r1 a K h).2.lt
  have hne : ∀ a K, kd a = some K → a ≠ fw_z S := fun a K h => by have := hlt a K h; omega
  refine ⟨va_up kd (fw_z S) (some K), fun a K' h => by rw [va_up_ne _ _ (hne a K' h)]; exact h, va_up_self _ _ _, fun a K' h => ?_, fun q hq => ?_, by omega, r4, by rw [fw_z_nw, z, r5], ?_⟩
  · by_cases ha : a = fw_z S
    · subst ha
      rw [va_up_self] at h
      cases h
      rw [fw_l_nw_self, fw_g_nw_self, fw_r_nw_self, ← r5]
      exact ⟨r3, hat⟩
    · rw [va_up_ne _ _ ha] at h
      rw [fw_l_nw_ne ha, fw_g_nw_ne ha, fw_r_nw_ne ha]
      exact ⟨(r1 a K' h).1, (r1 a K' h).2.kept (oq a (hlt a K' h))⟩
  · rw [oq q (by omega)]; exact r2 q hq
  · intro a Ka ha k b hb K' hK'
    by_cases hz : a = fw_z S
    · subst hz
      rw [fw_r_nw_self] at hb
      cases hb
    · rw [va_up_ne _ _ hz] at ha
      rw [fw_r_nw_ne hz] at hb
      have := r6 a Ka ha k b hb K' hK'
      rw [va_up_ne _ _ (hne b K' this)]
      exact this
theorem fw_new (C : fw_C G own cc nL ret p s m args meth c) (Rr : fw_R G kd S H locs) {K idx N : Nat} {Cn : String} {T : u_T} (hC : fw_Cl K Cn T N) (hd : ∀ j, j < N → ((parseFieldDescriptor (T j).2.2.1).map defaultValue) = some (fw_fv K (fun _ => 0) (fun _ => none) j)) (hcl : Cond.classLink own idx Cn ∈ fw_WS) (hinst : Cond.instantiable Cn N ∈ fw_WS) (hini : Cond.initialized Cn ∈ fw_WS) (hcells : cells + 1 ≤ Rm.cells) (hslots : slots + N ≤ Rm.slots) (hdg : decode cc pc = .ok (.new idx, 3))
    (kk : ∀ (H1 : Heap) (kd' : Nat → Option Nat), fw_X kd kd' → kd' (fw_z S) = some K → fw_R G kd' (fw_nw S 0) H1 locs → W p l e Rm s m args below meth c H1 locs (cells + 1) (slots + N) Q (F0 m (pc + 3) ls (.ref (fw_z S) :: rest))) : W p l e Rm s m args below meth c H locs cells slots Q (F0 m pc ls rest) := by
  obtain ⟨hx, hb, -, hown, hts, -, -, hK⟩ := C
  obtain ⟨hc, hin, hN, hK1, ⟨ty0, hty⟩, hnm, hT⟩ := hC
  have hKn := hK.1.1 K _ hc
  have hsz : H.size = fw_z S := Rr.2.2.2.2.1
  refine W.newcK hx hb hown (hts _ hcl) (hts _ hinst) (hts _ hini) rfl hdg hcells hslots hKn.2.1 rfl fun H1 kC hkC e1 z1 o1 => ?_
  obtain ⟨kd', h1, h2, h3⟩ := Rr.made (K := K) (n := 0) z1 o1 (by
    rw [show fw_cell G.2.1 K 0 (fun _ => 0) (fun _ => none) = .inr (K, fw_fl K (fun _ => 0) (fun _ => none)) by simp [fw_cell, hK1]]
    refine ⟨_, hc, (u_born ty0 hts hin hKn hkC e1 hty).to (fun j hj => ?_)⟩
    have h := hd j hj
    rw [hty j hj] at h
    have h' : defaultValue (ty0 j) = fw_fv K (fun _ => 0) (fun _ => none) j := Option.some.inj h
    rw [h']
    have hj' : j < (fw_ft K).length := hN ▸ hj
    simp [vp_V, fw_fl, hj'])
  have := kk H1 kd' h1 h2 h3
  rw [← hsz] at this
  exact this
theorem fw_newa (C : fw_C G own cc nL ret p s m args meth c) (Rr : fw_R G kd S H locs) {K : Nat} {atype : ArrayType} {ty : FieldType} (hty : newarray.typeOf atype = ty) (harr : Cond.arrayClass ty ∈ fw_WS) (ht : (K, ty) ∈ fw_tys) (hK1 : ¬ K < 100) (hK2 : K < 200) (hdef : defaultValue ty = .int 0) {n : Int32} (hn : ¬ n < 0) (hbytes : n.toNatClampNeg * componentBytes ty ≤ 536870912) (hcells : cells + 1 ≤ Rm.cells) (hslots : slots + n.toNatClampNeg ≤ Rm.slots) (hdg : decode cc pc = .ok (.newarray atype, 2)) (hra : ∀ cA, va_RA s cA ty → s.vm.findClass ("[" ++ ty.toString) = some cA)
    (kk : ∀ (H1 : Heap) (kd' : Nat → Option Nat), fw_X kd kd' → kd' (fw_z S) = some K → fw_R G kd' (fw_nw S n.toNatClampNeg) H1 locs → W p l e Rm s m args below meth c H1 locs (cells + 1) (slots + n.toNatClampNeg) Q (F0 m (pc + 2) ls (.ref (fw_z S) :: rest))) : W p l e Rm s m args below meth c H locs cells slots Q (F0 m pc ls (.int n :: rest)) := by
  subst hty
  have hsz : H.size = fw_z S := Rr.2.2.2.2.1
  refine va_newaK C.1 C.2.1 (C.2.2.2.2.1 _ harr) rfl hdg rfl hn rfl hbytes hcells hslots rfl fun H1 cA e1 z1 o1 hAr hNm => ?_
  have hcA : cA = G.2.1 K := Option.some.inj (hNm.symm.trans (hra _ (fw_tyAt C.2.2.2.2.2.2.2 ht).2))
  subst hcA
  obtain ⟨kd', h1, h2, h3⟩ := Rr.made (K := K) (n := n.toNatClampNeg) z1 o1 (by
    rw [show fw_cell G.2.1 K n.toNatClampNeg (fun _ => 0) (fun _ => none) = .inl (G.2.1 K, n.toNatClampNeg, .inl (fun _ => 0)) by simp [fw_cell, hK1, hK2]]
    show H1[H.size]? = some (vp_cell _ _)
    rw [vp_cell_i, e1, hdef])
  have := kk H1 kd' h1 h2 h3
  rw [← hsz] at this
  exact this
theorem fw_newq (C : fw_C G own cc nL ret p s m args meth c) (Rr : fw_R G kd S H locs) {K idx : Nat} {Cn : String} (hcl : Cond.classLink own idx Cn ∈ fw_WS) (hao : Cn ∈ fw_ao) (ht : (200 + K, FieldType.object Cn) ∈ fw_tys) {n : Int32} (hn : ¬ n < 0) (hbytes : n.toNatClampNeg * 4 ≤ 536870912) (hcells : cells + 1 ≤ Rm.cells) (hslots : slots + n.toNatClampNeg ≤ Rm.slots) (hdg : decode cc pc = .ok (.anewarray idx, 3))
    (kk : ∀ (H1 : Heap) (kd' : Nat → Option Nat), fw_X kd kd' → kd' (fw_z S) = some (200 + K) → fw_R G kd' (fw_nw S n.toNatClampNeg) H1 locs → W p l e Rm s m args below meth c H1 locs (cells + 1) (slots + n.toNatClampNeg) Q (F0 m (pc + 3) ls (.ref (fw_z S) :: rest))) : W p l e Rm s m args below meth c H locs cells slots Q (F0 m pc ls (.int n :: rest)) := by
  have hsz : H.size = fw_z S := Rr.2.2.2.2.1
  have hKs := C.2.2.2.2.2.2.2
  refine W.anew C.1 C.2.1 C.2.2.2.1 (C.2.2.2.2.1 _ hcl) (va_AO.use (hKs.2.2 _ hao)) rfl hdg rfl hn hbytes hcells hslots fun cA kA comp f1 f2 f3 f4 => ?_
  obtain ⟨kA', comp', k1, k2, k3, k4⟩ := (fw_tyAt hKs ht).2
  have hcA : cA = G.2.1 (200 + K) := Option.some.inj (f1.symm.trans k4)
  subst hcA
  generalize hH1 : H.push ({ cls := G.2.1 (200 + K), slots := Array.replicate n.toNatClampNeg .null, vm := .none } : Cell) = H1
  have z1 : H1.size = H.size + 1 := by rw [← hH1, Array.size_push]
  have e1 : H1[H.size]? = some (arrV (G.2.1 (200 + K)) n.toNatClampNeg (fun _ => .null)) := by rw [← hH1, Array.getElem?_push_size, ← arrV_new]
  have o1 : ∀ q : Nat, q < H.size → H1[q]? = H[q]? := fun q hq => by rw [← hH1, Array.getElem?_push, if_neg (Nat.ne_of_lt hq)]
  obtain ⟨kd', h1, h2, h3⟩ := Rr.made (K := 200 + K) (n := n.toNatClampNeg) z1 o1 (by
    rw [show fw_cell G.2.1 (200 + K) n.toNatClampNeg (fun _ => 0) (fun _ => none) = .inl (G.2.1 (200 + K), n.toNatClampNeg, .inr (.inr (.inr (.inr (fun _ => none))))) by simp [fw_cell, show ¬ 200 + K < 100 by omega, show ¬ 200 + K < 200 by omega]]
    show H1[H.size]? = some (vp_cell _ _)
    rw [vp_cell_q, e1]
    rfl)
  have := kk H1 kd' h1 h2 h3
  rw [← hsz] at this
  exact this
end FWR
end
section
/-! Contracts, starts, ends and calls over the abstract store. -/
def fw_Q (G : fw_G) (kd : Nat → Option Nat) (v : Option Value) (S' : fw_S) (P : (Nat → Option Nat) → Prop) : Array Value → State → Outcome → State → Prop := fun _ _ oc t => oc = .returned v ∧ ∃ kd', fw_X kd kd' ∧ P kd' ∧ fw_R G kd' S' t.heap []
def fw_M (l : Launch) (G : fw_G) (y : MethodName) (cc : ByteArray) (nL : Nat) (ret : Option FieldType) (fr lo mc ms : Nat) (kd : Nat → Option Nat) (S : fw_S) (as : List Value) (v : Option Value) (S' : fw_S) (P : (Nat → Option Nat) → Prop) : Prop :=
  Met l y (Cond.code y cc nL ret :: fw_WS) { frames := fr, cells := mc, slots := ms, locals := lo } (va_Pc as (fun U => fw_R G kd S U.heap [] ∧ fw_K G U)) (fw_Q G kd v S' P) mc ms (fw_A G)
theorem fw_R.nil {G : fw_G} {kd : Nat → Option Nat} {S : fw_S} {H : Heap} {locs : List Loc} (h : fw_R G kd S H locs) : fw_R G kd S H [] := ⟨h.1, h.2.1, h.2.2.1, (fun _ h => by cases h), h.2.2.2.2⟩
theorem fw_R.more {G : fw_G} {kd : Nat → Option Nat} {S : fw_S} {H : Heap} {locs L : List Loc} (h : fw_R G kd S H []) (h1 : ∀ q ∈ locs, G.2.2.size ≤ q.base) (h2 : ∀ q ∈ L, G.2.2.size ≤ q.base) : fw_R G kd S H (locs ++ L) := ⟨h.1, h.2.1, h.2.2.1, fun q hq => (List.mem_append.mp hq).elim (h1 q) (h2 q), h.2.2.2.2⟩
theorem fw_start {l : Launch} {G : fw_G} {y : MethodName} {cc : ByteArray} {nL : Nat} {ret : Option FieldType} {fr lo mc ms : Nat} {kd : Nat → Option Nat} {S : fw_S} {as : List Value} {v : Option Value} {S' : fw_S} {P : (Nat → Option Nat) → Prop} (hy : plainName y.cls = true) (hlen : (lg_sl as).length ≤ nL)
    (body : ∀ (p : Program) (e : Env) (s : State) (m : MethodId) (below : List Frame) (meth : Method) (c : Code) (ls : Array Slot), fw_C G y.cls cc nL ret p s m as.toArray meth c → meth.name = y.name → fw_R G kd S s.heap [] → lv_has ls nL (lv_args 0 as) →
      W p l e { frames := fr, cells := mc, slots := ms, locals := lo } s m as.toArray below meth c s.heap [] 0 0 (MQ below (fw_Q G kd v S' P) as.toArray s mc ms (fw_A G)) (F0 m 0 ls [])) : fw_M l G y cc nL ret fr lo mc ms kd S as v S' P := by
  refine Met.ofW (cc := cc) (maxL := nL) (ret := ret) hy rfl ?_
  intro p e s m args below meth c s₁ B hml hv
  obtain ⟨rfl, hR, hK⟩ := hv
  have hts := atoms_spec (ws := Cond.code y cc nL ret :: fw_WS) B.pre
  rw [lg_entry_eq]
  exact body p e s m below meth c _ ⟨B.exec, B.bytes, hml, findClass_of_methodNamed B.named, fun w hw => hts w (List.mem_cons_of_mem _ hw), B.notSynchronized, B.returns, hK⟩ (name_of_methodNamed B.named B.method).1 hR (lv_entry as hlen)
-- a call's fixed facts
def fw_L (own : String) (idx : Nat) (y : MethodName) (cc : ByteArray) (nL : Nat) (ret : Option FieldType) (n : Nat) : Prop :=
  Cond.code y cc nL ret ∈ fw_WS ∧ Cond.initialized y.cls ∈ fw_WS ∧ (y.cls ≠ "java/lang/invoke/MethodHandle" ∧ y.cls ≠ "java/lang/invoke/VarHandle") ∧ (parseMethodDescriptor y.desc).map (fun d => d.parameters.length) = some n ∧ (Cond.methodLink own idx y ∈ fw_WS ∨ ∃ host, Cond.methodLinkNest own idx y host ∈ fw_NS)
theorem fw_good {y : MethodName} {cc : ByteArray} {nL : Nat} {ret : Option FieldType} (h : Cond.code y cc nL ret ∈ fw_WS) : GoodIn fw_WS (Cond.code y cc nL ret :: fw_WS) := by
  intro w hw
  rcases List.mem_cons.mp hw with rfl | hw
  · exact ⟨h, good_of_word (fw_WS_ok _ h)⟩
  · exact ⟨hw, good_of_word (fw_WS_ok _ hw)⟩
section FWC
variable {p : Program} {l : Launch} {e : Env} {Rm : Room} {s : State} {m : MethodId} {args : Array Value} {below : List Frame} {meth : Method} {c : Code} {H : Heap} {locs : List Loc} {cells slots : Nat} {Q : State → Prop} {G : fw_G} {own : String} {cc : ByteArray} {nL : Nat} {ret : Option FieldType} {kd : Nat → Option Nat} {S : fw_S} {pc : Nat} {ls : Array Slot} {rest : List Value} {a : Nat}
variable {y : MethodName} {cc' : ByteArray} {nL' : Nat} {ret' : Option FieldType} {fr lo mc ms idx n b : Nat} {As st : List Value} {v : Option Value} {S' : fw_S} {P : (Nat → Option Nat) → Prop}
theorem fw_blind {as : List Value} : FrameBlind (va_Pc as (fun U => fw_R G kd S U.heap [] ∧ fw_K G U)) := fun _ _ _ _ q => ⟨q.1, q.2.1, q.2.2.calling⟩
theorem fw_back {st0 : List Value} {as : Array Value} (Rr : fw_R G kd S H locs) (hr : va_Run p l e Rm s m args below meth c H locs cells slots mc ms (F0 m pc ls st0) rest (fw_Q G kd v S' P as) (fw_A G))
    (kk : ∀ (H1 : Heap) (locs1 : List Loc) (kd' : Nat → Option Nat), fw_X kd kd' → P kd' → fw_R G kd' S' H1 locs1 → W p l e Rm s m args below meth c H1 locs1 (cells + mc) (slots + ms) Q (F0 m (pc + 3) ls (v.toList ++ rest))) : W p l e Rm s m args below meth c H locs cells slots Q (F0 m pc ls st0) := by
  intro T hT X
  obtain ⟨v', st₀, t, T', L, h0, X', hL, e1, e2, ⟨hv, kd', h1, h2, h3⟩, st⟩ := hr T hT X
  cases hv
  obtain ⟨t2, a1, b1⟩ := kk T'.heap (locs ++ L) kd' h1 h2 (by rw [e1]; exact h3.more Rr.2.2.2.1 hL) T' rfl X'
  exact ⟨t2, st t2 a1, b1⟩
theorem fw_recv (hK : fw_K G s) (Rr : fw_R G kd S H locs) {K : Nat} (hk : kd b = some K) (hK1 : K < 100) {Cn : String} (hc : fw_cl[K]?.map (fun q => q.1) = some Cn) : ∃ cell : Cell, H[b]? = some cell ∧ cell.vm.isStatics = false ∧ s.vm.findClass Cn = some cell.cls := by
  have hat := (Rr.1 b K hk).2
  rw [show fw_cell G.2.1 K (fw_l S b) (fw_g S b) (fw_r S b) = .inr (K, fw_fl K (fw_g S b) (fw_r S b)) by simp [fw_cell, hK1]] at hat
  obtain ⟨q, h1, cell, g1, g2, g3, -⟩ := hat
  rw [h1] at hc
  cases hc
  exact ⟨cell, g1, by rw [g3]; rfl, by rw [g2]; exact (hK.1.1 K q h1).2.1⟩
theorem fw_callV (C : fw_C G own cc nL ret p s m args meth c) (Rr : fw_R G kd S H locs) (LK : fw_L own idx y cc' nL' ret' n) (hi : Cond.instanceMethod y ∈ fw_WS) (hs : Cond.selects y.cls y y ∈ fw_WS) (hM : fw_M l G y cc' nL' ret' fr lo mc ms kd S (.ref b :: As) v S' P) {K : Nat} (hk : kd b = some K) (hK1 : K < 100) (hc : fw_cl[K]?.map (fun q => q.1) = some y.cls)
    (hn : As.length = n) (hsize : ls.size = nL) (hst : st = As.reverse ++ .ref b :: rest) (hW : 2 * (F0 m pc ls st).monitorRoom + (rest.map fun v => v.category).sum ≤ 8) (hR : fr + 1 ≤ Rm.frames ∧ 8 + (nL' + 11) + lo ≤ Rm.locals) (hcs : cells + mc ≤ Rm.cells ∧ slots + ms ≤ Rm.slots) (hdg : decode cc pc = .ok (.invokevirtual idx, 3))
    (kk : ∀ (H1 : Heap) (locs1 : List Loc) (kd' : Nat → Option Nat), fw_X kd kd' → P kd' → fw_R G kd' S' H1 locs1 → W p l e Rm s m args below meth c H1 locs1 (cells + mc) (slots + ms) Q (F0 m (pc + 3) ls (v.toList ++ rest))) : W p l e Rm s m args below meth c H locs cells slots Q (F0 m pc ls st) := by
  obtain ⟨hx, hb, hml, hown, hts, -, -, hK⟩ := C
  obtain ⟨l1, l2, l3, l4, l5⟩ := LK
  have hp : PreV s H y.cls b (va_Pc (.ref b :: As) (fun U => fw_R G kd S U.heap [] ∧ fw_K G U)) As := ⟨fw_blind, fw_recv hK Rr hk hK1 hc, fun U hU hW => ⟨rfl, by rw [hU]; exact Rr.nil, hK.moved hW⟩⟩
  rcases l5 with l5 | ⟨host, l5⟩
  · exact fw_back Rr (va_runV ⟨hx, hb, hml, hown, hts⟩ hM ⟨callB_of n hts (fw_good l1) rfl rfl rfl (hts _ l2) (hts _ l5) ⟨l3.1, l3.2, l4⟩ hR, hts _ hi, hts _ hs⟩ hp rfl hn hsize hst hW hdg hcs) kk
  · exact fw_back Rr (va_runVN ⟨hx, hb, hml, hown, hts⟩ hM ⟨va_cnB n hts (fw_good l1) rfl rfl rfl (hK.2.1 _ l5) (hts _ l2) ⟨l3.1, l3.2, l4⟩ hR, hts _ hi, hts _ hs⟩ hp rfl hn hsize hst hW hdg hcs) kk
theorem fw_callS (C : fw_C G own cc nL ret p s m args meth c) (Rr : fw_R G kd S H locs) (LK : fw_L own idx y cc' nL' ret' n) (hi : Cond.static y ∈ fw_WS) (hM : fw_M l G y cc' nL' ret' fr lo mc ms kd S As v S' P)
    (hn : As.length = n) (hsize : ls.size = nL) (hst : st = As.reverse ++ rest) (hW : 2 * (F0 m pc ls st).monitorRoom + (rest.map fun v => v.category).sum ≤ 8) (hR : fr + 1 ≤ Rm.frames ∧ 8 + (nL' + 11) + lo ≤ Rm.locals) (hcs : cells + mc ≤ Rm.cells ∧ slots + ms ≤ Rm.slots) (hdg : decode cc pc = .ok (.invokestatic idx, 3))
    (kk : ∀ (H1 : Heap) (locs1 : List Loc) (kd' : Nat → Option Nat), fw_X kd kd' → P kd' → fw_R G kd' S' H1 locs1 → W p l e Rm s m args below meth c H1 locs1 (cells + mc) (slots + ms) Q (F0 m (pc + 3) ls (v.toList ++ rest))) : W p l e Rm s m args below meth c H locs cells slots Q (F0 m pc ls st) := by
  obtain ⟨hx, hb, hml, hown, hts, -, -, hK⟩ := C
  obtain ⟨l1, l2, l3, l4, l5⟩ := LK
  have hp : PreS s H (va_Pc As (fun U => fw_R G kd S U.heap [] ∧ fw_K G U)) As := ⟨fw_blind, fun U hU hW => ⟨rfl, by rw [hU]; exact Rr.nil, hK.moved hW⟩⟩
  rcases l5 with l5 | ⟨host, l5⟩
  · exact fw_back Rr (va_runS ⟨hx, hb, hml, hown, hts⟩ hM ⟨callB_of n hts (fw_good l1) rfl rfl rfl (hts _ l2) (hts _ l5) ⟨l3.1, l3.2, l4⟩ hR, hts _ hi⟩ hp rfl hn hsize hst hW hdg hcs) kk
  · exact fw_back Rr (va_runSN ⟨hx, hb, hml, hown, hts⟩ hM ⟨va_cnB n hts (fw_good l1) rfl rfl rfl (hK.2.1 _ l5) (hts _ l2) ⟨l3.1, l3.2, l4⟩ hR, hts _ hi, trivial⟩ hp rfl hn hsize hst hW hdg hcs) kk
theorem fw_callI (C : fw_C G own cc nL ret p s m args meth c) (Rr : fw_R G kd S H locs) (LK : fw_L own idx y cc' nL' none n) (hi : Cond.instanceMethod y ∈ fw_WS) (hy : y.name = "<init>") (hM : fw_M l G y cc' nL' none fr lo mc ms kd S (.ref b :: As) v S' P)
    (hn : As.length = n) (hsize : ls.size = nL) (hst : st = As.reverse ++ .ref b :: rest) (hW : 2 * (F0 m pc ls st).monitorRoom + (rest.map fun v => v.category).sum ≤ 8) (hR : fr + 1 ≤ Rm.frames ∧ 8 + (nL' + 11) + lo ≤ Rm.locals) (hcs : cells + mc ≤ Rm.cells ∧ slots + ms ≤ Rm.slots) (hdg : decode cc pc = .ok (.invokespecial idx, 3))
    (kk : ∀ (H1 : Heap) (locs1 : List Loc) (kd' : Nat → Option Nat), fw_X kd kd' → P kd' → fw_R G kd' S' H1 locs1 → W p l e Rm s m args below meth c H1 locs1 (cells + mc) (slots + ms) Q (F0 m (pc + 3) ls (v.toList ++ rest))) : W p l e Rm s m args below meth c H locs cells slots Q (F0 m pc ls st) := by
  obtain ⟨hx, hb, hml, hown, hts, -, -, hK⟩ := C
  obtain ⟨l1, l2, l3, l4, l5⟩ := LK
  have hp : PreS s H (va_Pc (.ref b :: As) (fun U => fw_R G kd S U.heap [] ∧ fw_K G U)) (.ref b :: As) := ⟨fw_blind, fun U hU hW => ⟨rfl, by rw [hU]; exact Rr.nil, hK.moved hW⟩⟩
  rcases l5 with l5 | ⟨host, l5⟩
  · exact fw_back Rr (va_runI ⟨hx, hb, hml, hown, hts⟩ hM ⟨callB_of n hts (fw_good l1) rfl rfl rfl (hts _ l2) (hts _ l5) ⟨l3.1, l3.2, l4⟩ hR, hy, hts _ hi⟩ hp rfl hn hsize hst hW hdg hcs) kk
  · exact fw_back Rr (va_runIN ⟨hx, hb, hml, hown, hts⟩ hM ⟨va_cnB n hts (fw_good l1) rfl rfl rfl (hK.2.1 _ l5) (hts _ l2) ⟨l3.1, l3.2, l4⟩ hR, hy, hts _ hi⟩ hp rfl hn hsize hst hW hdg hcs) kk
theorem fw_min (C : fw_C G own cc nL ret p s m args meth c) (hl : Cond.methodLink own idx Lib.Math.min.name ∈ fw_WS) (h1 : Cond.static Lib.Math.min.name ∈ fw_WS) (h2 : Cond.initialized "java/lang/Math" ∈ fw_WS) (h3 : Cond.code Lib.Math.min.name Lib.Math.min.code 2 (some .int) ∈ fw_WS) (hsize : ls.size = nL)
    (hf : 1 ≤ Rm.frames) (hlo : (rest.map fun v => v.category).sum + 13 ≤ Rm.locals) (hc : cells ≤ Rm.cells) (hs : slots ≤ Rm.slots) {x z : Int32} (hdg : decode cc pc = .ok (.invokestatic idx, 3))
    (kk : W p l e Rm s m args below meth c H locs cells slots Q (F0 m (pc + 3) ls (.int (if z < x then z else x) :: rest))) : W p l e Rm s m args below meth c H locs cells slots Q (F0 m pc ls (.int z :: .int x :: rest)) :=
  va_mmin C.1 C.2.1 (C.2.2.1.trans hsize.symm) C.2.2.2.1 (C.2.2.2.2.1 _ hl) (C.2.2.2.2.1 _ h1) (C.2.2.2.2.1 _ h2) (C.2.2.2.2.1 _ h3) hf hlo hc hs hdg kk
theorem fw_max (C : fw_C G own cc nL ret p s m args meth c) (hl : Cond.methodLink own idx Lib.Math.max.name ∈ fw_WS) (h1 : Cond.static Lib.Math.max.name ∈ fw_WS) (h2 : Cond.initialized "java/lang/Math" ∈ fw_WS) (h3 : Cond.code Lib.Math.max.name Lib.Math.max.code 2 (some .int) ∈ fw_WS) (hsize : ls.size = nL)
    (hf : 1 ≤ Rm.frames) (hlo : (rest.map fun v => v.category).sum + 13 ≤ Rm.locals) (hc : cells ≤ Rm.cells) (hs : slots ≤ Rm.slots) {x z : Int32} (hdg : decode cc pc = .ok (.invokestatic idx, 3))
    (kk : W p l e Rm s m args below meth c H locs cells slots Q (F0 m (pc + 3) ls (.int (if x < z then z else x) :: rest))) : W p l e Rm s m args below meth c H locs cells slots Q (F0 m pc ls (.int z :: .int x :: rest)) :=
  va_mmax C.1 C.2.1 (C.2.2.1.trans hsize.symm) C.2.2.2.1 (C.2.2.2.2.1 _ hl) (C.2.2.2.2.1 _ h1) (C.2.2.2.2.1 _ h2) (C.2.2.2.2.1 _ h3) hf hlo hc hs hdg kk
theorem fw_obj (C : fw_C G own cc nL ret p s m args meth c) (hl : Cond.methodLink own idx objectInit ∈ fw_WS) (h1 : Cond.instanceMethod objectInit ∈ fw_WS) (h2 : Cond.code objectInit ⟨#[0xb1]⟩ 1 none ∈ fw_WS) (hsize : ls.size = nL) (hd : decode cc pc = .ok (.invokespecial idx, 3))
    (hf : 1 ≤ Rm.frames) (hlo : 2 * (F0 m pc ls (.ref a :: rest)).monitorRoom + (rest.map fun v => v.category).sum + 12 ≤ Rm.locals)
    (kk : W p l e Rm s m args below meth c H locs cells slots Q (F0 m (pc + 3) ls rest)) : W p l e Rm s m args below meth c H locs cells slots Q (F0 m pc ls (.ref a :: rest)) :=
  W.objInit C.1 C.2.1 C.2.2.2.1 (C.2.2.2.2.1 _ hl) (C.2.2.2.2.1 _ h1) (C.2.2.2.2.1 _ h2) rfl (hsize.trans C.2.2.1.symm) rfl hd hf hlo kk
-- ends
variable {kd0 : Nat → Option Nat}
theorem fw_iret {x : Int32} (C : fw_C G own cc nL (some .int) p s m args meth c) (hX : fw_X kd0 kd) (hP : P kd) (Rr : fw_R G kd S H locs) (hdg : decode cc pc = .ok (.ireturn, 1)) : W p l e Rm s m args below meth c H locs cells slots (MQ below (fw_Q G kd0 (some (.int x)) S P) args s cells slots (fw_A G)) (F0 m pc ls [.int x]) :=
  W.iret C.1 C.2.1 C.2.2.2.2.2.2.1 (fun t ht _ => ⟨rfl, kd, hX, hP, by rw [ht]; exact Rr.nil⟩) Rr.2.2.2.1 hdg C.2.2.2.2.2.1
theorem fw_zret {x : Int32} (C : fw_C G own cc nL (some .boolean) p s m args meth c) (hx : x = 0 ∨ x = 1) (hX : fw_X kd0 kd) (hP : P kd) (Rr : fw_R G kd S H locs) (hdg : decode cc pc = .ok (.ireturn, 1)) : W p l e Rm s m args below meth c H locs cells slots (MQ below (fw_Q G kd0 (some (.int x)) S P) args s cells slots (fw_A G)) (F0 m pc ls [.int x]) :=
  W.zret C.1 C.2.1 C.2.2.2.2.2.2.1 (fw_z01 hx).1 (fun t ht _ => ⟨rfl, kd, hX, hP, by rw [ht]; exact Rr.nil⟩) Rr.2.2.2.1 hdg C.2.2.2.2.2.1
theorem fw_vret (C : fw_C G own cc nL none p s m args meth c) (hX : fw_X kd0 kd) (hP : P kd) (Rr : fw_R G kd S H locs) (hdg : decode cc pc = .ok (.return_, 1)) : W p l e Rm s m args below meth c H locs cells slots (MQ below (fw_Q G kd0 none S P) args s cells slots (fw_A G)) (F0 m pc ls []) :=
  W.vret C.1 C.2.1 C.2.2.2.2.2.2.1 (fun t ht _ => ⟨rfl, kd, hX, hP, by rw [ht]; exact Rr.nil⟩) Rr.2.2.2.1 hdg C.2.2.2.2.2.1
theorem fw_aret {Cn : String} {o : Option Nat} (C : fw_C G own cc nL (some (.object Cn)) p s m args meth c) (hX : fw_X kd0 kd) (hP : P kd) (Rr : fw_R G kd S H locs) (hdg : decode cc pc = .ok (.areturn, 1)) : W p l e Rm s m args below meth c H locs cells slots (MQ below (fw_Q G kd0 (some (va_rf o)) S P) args s cells slots (fw_A G)) (F0 m pc ls [va_rf o]) :=
  W.aret C.1 C.2.1 C.2.2.2.2.2.2.1 (Or.inl ⟨_, rfl⟩) (by cases o <;> simp [va_rf]) (fun t ht _ => ⟨rfl, kd, hX, hP, by rw [ht]; exact Rr.nil⟩) Rr.2.2.2.1 hdg C.2.2.2.2.2.1
end FWC
end
section
/-! Facts of the tables (by program). -/
theorem cw_0 : ∀ w ∈ u_ws "FederationWire$Frame" fT_0 4, w ∈ lw_tbl := by decide +kernel
theorem cg_0 : ∀ w ∈ u_ws "FederationWire$Frame" fT_0 4, goodWord w = true := by decide +kernel
theorem cy_0 : ∀ j, j < 4 → parseFieldDescriptor (fT_0 j).2.2.1 = some (fY_0 j) := by decide +kernel
theorem cl_0 : fw_Cl 0 "FederationWire$Frame" fT_0 4 := ⟨rfl, fun w h => fw_in (cw_0 w h) (cg_0 w h), rfl, by decide, ⟨fY_0, cy_0⟩, by decide +kernel, by decide +kernel⟩
theorem nd_0 : ∀ j, j < 4 → ((parseFieldDescriptor (fT_0 j).2.2.1).map defaultValue) = some (fw_fv 0 (fun _ => 0) (fun _ => none) j) := by
  intro j hj
  rw [cy_0 j hj]
  have h : j = 0 ∨ j = 1 ∨ j = 2 ∨ j = 3 := by omega
  rcases h with rfl | rfl | rfl | rfl <;> rfl
theorem ni_0 : Cond.instantiable "FederationWire$Frame" 4 ∈ fw_WS := fw_in (fw_tb (i := 56) (by decide +kernel)) rfl
theorem nj_0 : Cond.initialized "FederationWire$Frame" ∈ fw_WS := fw_in (fw_tb (i := 5) (by decide +kernel)) rfl
theorem cw_1 : ∀ w ∈ u_ws "FederationWire$Memory" fT_1 4, w ∈ lw_tbl := by decide +kernel
theorem cg_1 : ∀ w ∈ u_ws "FederationWire$Memory" fT_1 4, goodWord w = true := by decide +kernel
theorem cy_1 : ∀ j, j < 4 → parseFieldDescriptor (fT_1 j).2.2.1 = some (fY_1 j) := by decide +kernel
theorem cl_1 : fw_Cl 1 "FederationWire$Memory" fT_1 4 := ⟨rfl, fun w h => fw_in (cw_1 w h) (cg_1 w h), rfl, by decide, ⟨fY_1, cy_1⟩, by decide +kernel, by decide +kernel⟩
theorem nd_1 : ∀ j, j < 4 → ((parseFieldDescriptor (fT_1 j).2.2.1).map defaultValue) = some (fw_fv 1 (fun _ => 0) (fun _ => none) j) := by
  intro j hj
  rw [cy_1 j hj]
  have h : j = 0 ∨ j = 1 ∨ j = 2 ∨ j = 3 := by omega
  rcases h with rfl | rfl | rfl | rfl <;> rfl
theorem ni_1 : Cond.instantiable "FederationWire$Memory" 4 ∈ fw_WS := fw_in (fw_tb (i := 83) (by decide +kernel)) rfl
theorem nj_1 : Cond.initialized "FederationWire$Memory" ∈ fw_WS := fw_in (fw_tb (i := 6) (by decide +kernel)) rfl
theorem cw_2 : ∀ w ∈ u_ws "FederationWire$Pairs" fT_2 3, w ∈ lw_tbl := by decide +kernel
theorem cg_2 : ∀ w ∈ u_ws "FederationWire$Pairs" fT_2 3, goodWord w = true := by decide +kernel
theorem cy_2 : ∀ j, j < 3 → parseFieldDescriptor (fT_2 j).2.2.1 = some (fY_2 j) := by decide +kernel
theorem cl_2 : fw_Cl 2 "FederationWire$Pairs" fT_2 3 := ⟨rfl, fun w h => fw_in (cw_2 w h) (cg_2 w h), rfl, by decide, ⟨fY_2, cy_2⟩, by decide +kernel, by decide +kernel⟩
theorem nd_2 : ∀ j, j < 3 → ((parseFieldDescriptor (fT_2 j).2.2.1).map defaultValue) = some (fw_fv 2 (fun _ => 0) (fun _ => none) j) := by
  intro j hj
  rw [cy_2 j hj]
  have h : j = 0 ∨ j = 1 ∨ j = 2 := by omega
  rcases h with rfl | rfl | rfl <;> rfl
theorem ni_2 : Cond.instantiable "FederationWire$Pairs" 3 ∈ fw_WS := fw_in (fw_tb (i := 23) (by decide +kernel)) rfl
theorem nj_2 : Cond.initialized "FederationWire$Pairs" ∈ fw_WS := fw_in (fw_tb (i := 2) (by decide +kernel)) rfl
theorem cw_3 : ∀ w ∈ u_ws "FederationWire$Request" fT_3 16, w ∈ lw_tbl := by decide +kernel
theorem cg_3 : ∀ w ∈ u_ws "FederationWire$Request" fT_3 16, goodWord w = true := by decide +kernel
theorem cy_3 : ∀ j, j < 16 → parseFieldDescriptor (fT_3 j).2.2.1 = some (fY_3 j) := by decide +kernel
theorem cl_3 : fw_Cl 3 "FederationWire$Request" fT_3 16 := ⟨rfl, fun w h => fw_in (cw_3 w h) (cg_3 w h), rfl, by decide, ⟨fY_3, cy_3⟩, by decide +kernel, by decide +kernel⟩
theorem nd_3 : ∀ j, j < 16 → ((parseFieldDescriptor (fT_3 j).2.2.1).map defaultValue) = some (fw_fv 3 (fun _ => 0) (fun _ => none) j) := by
  intro j hj
  rw [cy_3 j hj]
  have h : j = 0 ∨ j = 1 ∨ j = 2 ∨ j = 3 ∨ j = 4 ∨ j = 5 ∨ j = 6 ∨ j = 7 ∨ j = 8 ∨ j = 9 ∨ j = 10 ∨ j = 11 ∨ j = 12 ∨ j = 13 ∨ j = 14 ∨ j = 15 := by omega
  rcases h with rfl | rfl | rfl | rfl | rfl | rfl | rfl | rfl | rfl | rfl | rfl | rfl | rfl | rfl | rfl | rfl <;> rfl
theorem ni_3 : Cond.instantiable "FederationWire$Request" 16 ∈ fw_WS := fw_in (fw_tb (i := 272) (by decide +kernel)) rfl
theorem nj_3 : Cond.initialized "FederationWire$Request" ∈ fw_WS := fw_in (fw_tb (i := 9) (by decide +kernel)) rfl
theorem cw_4 : ∀ w ∈ u_ws "FederationWire$ServingEnd" fT_4 5, w ∈ lw_tbl := by decide +kernel
theorem cg_4 : ∀ w ∈ u_ws "FederationWire$ServingEnd" fT_4 5, goodWord w = true := by decide +kernel
theorem cy_4 : ∀ j, j < 5 → parseFieldDescriptor (fT_4 j).2.2.1 = some (fY_4 j) := by decide +kernel
theorem cl_4 : fw_Cl 4 "FederationWire$ServingEnd" fT_4 5 := ⟨rfl, fun w h => fw_in (cw_4 w h) (cg_4 w h), rfl, by decide, ⟨fY_4, cy_4⟩, by decide +kernel, by decide +kernel⟩
theorem nd_4 : ∀ j, j < 5 → ((parseFieldDescriptor (fT_4 j).2.2.1).map defaultValue) = some (fw_fv 4 (fun _ => 0) (fun _ => none) j) := by
  intro j hj
  rw [cy_4 j hj]
  have h : j = 0 ∨ j = 1 ∨ j = 2 ∨ j = 3 ∨ j = 4 := by omega
  rcases h with rfl | rfl | rfl | rfl | rfl <;> rfl
theorem ni_4 : Cond.instantiable "FederationWire$ServingEnd" 5 ∈ fw_WS := fw_in (fw_tb (i := 46) (by decide +kernel)) rfl
theorem nj_4 : Cond.initialized "FederationWire$ServingEnd" ∈ fw_WS := fw_in (fw_tb (i := 4) (by decide +kernel)) rfl
theorem cw_5 : ∀ w ∈ u_ws "FederationWire$Wire" fT_5 7, w ∈ lw_tbl := by decide +kernel
theorem cg_5 : ∀ w ∈ u_ws "FederationWire$Wire" fT_5 7, goodWord w = true := by decide +kernel
theorem cy_5 : ∀ j, j < 7 → parseFieldDescriptor (fT_5 j).2.2.1 = some (fY_5 j) := by decide +kernel
theorem cl_5 : fw_Cl 5 "FederationWire$Wire" fT_5 7 := ⟨rfl, fun w h => fw_in (cw_5 w h) (cg_5 w h), rfl, by decide, ⟨fY_5, cy_5⟩, by decide +kernel, by decide +kernel⟩
theorem nd_5 : ∀ j, j < 7 → ((parseFieldDescriptor (fT_5 j).2.2.1).map defaultValue) = some (fw_fv 5 (fun _ => 0) (fun _ => none) j) := by
  intro j hj
  rw [cy_5 j hj]
  have h : j = 0 ∨ j = 1 ∨ j = 2 ∨ j = 3 ∨ j = 4 ∨ j = 5 ∨ j = 6 := by omega
  rcases h with rfl | rfl | rfl | rfl | rfl | rfl | rfl <;> rfl
theorem ni_5 : Cond.instantiable "FederationWire$Wire" 7 ∈ fw_WS := fw_in (fw_tb (i := 127) (by decide +kernel)) rfl
theorem nj_5 : Cond.initialized "FederationWire$Wire" ∈ fw_WS := fw_in (fw_tb (i := 7) (by decide +kernel)) rfl
theorem cw_6 : ∀ w ∈ u_ws "FederationWire" fT_6 13, w ∈ lw_tbl := by decide +kernel
theorem cg_6 : ∀ w ∈ u_ws "FederationWire" fT_6 13, goodWord w = true := by decide +kernel
theorem cy_6 : ∀ j, j < 13 → parseFieldDescriptor (fT_6 j).2.2.1 = some (fY_6 j) := by decide +kernel
theorem cl_6 : fw_Cl 6 "FederationWire" fT_6 13 := ⟨rfl, fun w h => fw_in (cw_6 w h) (cg_6 w h), rfl, by decide, ⟨fY_6, cy_6⟩, by decide +kernel, by decide +kernel⟩
theorem nd_6 : ∀ j, j < 13 → ((parseFieldDescriptor (fT_6 j).2.2.1).map defaultValue) = some (fw_fv 6 (fun _ => 0) (fun _ => none) j) := by
  intro j hj
  rw [cy_6 j hj]
  have h : j = 0 ∨ j = 1 ∨ j = 2 ∨ j = 3 ∨ j = 4 ∨ j = 5 ∨ j = 6 ∨ j = 7 ∨ j = 8 ∨ j = 9 ∨ j = 10 ∨ j = 11 ∨ j = 12 := by omega
  rcases h with rfl | rfl | rfl | rfl | rfl | rfl | rfl | rfl | rfl | rfl | rfl | rfl | rfl <;> rfl
theorem ni_6 : Cond.instantiable "FederationWire" 13 ∈ fw_WS := fw_in (fw_tb (i := 11) (by decide +kernel)) rfl
theorem nj_6 : Cond.initialized "FederationWire" ∈ fw_WS := fw_in (fw_tb (i := 1) (by decide +kernel)) rfl
theorem cw_7 : ∀ w ∈ u_ws "FederationWireModel" fT_7 51, w ∈ lw_tbl := by decide +kernel
theorem cg_7 : ∀ w ∈ u_ws "FederationWireModel" fT_7 51, goodWord w = true := by decide +kernel
theorem cy_7 : ∀ j, j < 51 → parseFieldDescriptor (fT_7 j).2.2.1 = some (fY_7 j) := by decide +kernel
theorem cl_7 : fw_Cl 7 "FederationWireModel" fT_7 51 := ⟨rfl, fun w h => fw_in (cw_7 w h) (cg_7 w h), rfl, by decide, ⟨fY_7, cy_7⟩, by decide +kernel, by decide +kernel⟩
theorem nd_7 : ∀ j, j < 51 → ((parseFieldDescriptor (fT_7 j).2.2.1).map defaultValue) = some (fw_fv 7 (fun _ => 0) (fun _ => none) j) := by
  intro j hj
  rw [cy_7 j hj]
  have h : j = 0 ∨ j = 1 ∨ j = 2 ∨ j = 3 ∨ j = 4 ∨ j = 5 ∨ j = 6 ∨ j = 7 ∨ j = 8 ∨ j = 9 ∨ j = 10 ∨ j = 11 ∨ j = 12 ∨ j = 13 ∨ j = 14 ∨ j = 15 ∨ j = 16 ∨ j = 17 ∨ j = 18 ∨ j = 19 ∨ j = 20 ∨ j = 21 ∨ j = 22 ∨ j = 23 ∨ j = 24 ∨ j = 25 ∨ j = 26 ∨ j = 27 ∨ j = 28 ∨ j = 29 ∨ j = 30 ∨ j = 31 ∨ j = 32 ∨ j = 33 ∨ j = 34 ∨ j = 35 ∨ j = 36 ∨ j = 37 ∨ j = 38 ∨ j = 39 ∨ j = 40 ∨ j = 41 ∨ j = 42 ∨ j = 43 ∨ j = 44 ∨ j = 45 ∨ j = 46 ∨ j = 47 ∨ j = 48 ∨ j = 49 ∨ j = 50 := by omega
  rcases h with rfl | rfl | rfl | rfl | rfl | rfl | rfl | rfl | rfl | rfl | rfl | rfl | rfl | rfl | rfl | rfl | rfl | rfl | rfl | rfl | rfl | rfl | rfl | rfl | rfl | rfl | rfl | rfl | rfl | rfl | rfl | rfl | rfl | rfl | rfl | rfl | rfl | rfl | rfl | rfl | rfl | rfl | rfl | rfl | rfl | rfl | rfl | rfl | rfl | rfl | rfl <;> rfl
theorem ni_7 : Cond.instantiable "FederationWireModel" 51 ∈ fw_WS := fw_in (fw_tb (i := 547) (by decide +kernel)) rfl
theorem nj_7 : Cond.initialized "FederationWireModel" ∈ fw_WS := fw_in (fw_tb (i := 8) (by decide +kernel)) rfl
theorem ob_1 : Cond.instanceMethod objectInit ∈ fw_WS := fw_in (fw_tb (i := 16) (by decide +kernel)) rfl
theorem ob_2 : Cond.code objectInit ⟨#[0xb1]⟩ 1 none ∈ fw_WS := fw_in (fw_tb (i := 17) (by decide +kernel)) rfl
theorem mmin_1 : Cond.static Lib.Math.min.name ∈ fw_WS := fw_in (fw_tb (i := 378) (by decide +kernel)) rfl
theorem mmin_2 : Cond.initialized "java/lang/Math" ∈ fw_WS := fw_in (fw_tb (i := 3) (by decide +kernel)) rfl
theorem mmin_3 : Cond.code Lib.Math.min.name Lib.Math.min.code 2 (some .int) ∈ fw_WS := fw_in (fw_tb (i := 379) (by decide +kernel)) rfl
theorem mmax_1 : Cond.static Lib.Math.max.name ∈ fw_WS := fw_in (fw_tb (i := 29) (by decide +kernel)) rfl
theorem mmax_2 : Cond.initialized "java/lang/Math" ∈ fw_WS := fw_in (fw_tb (i := 3) (by decide +kernel)) rfl
theorem mmax_3 : Cond.code Lib.Math.max.name Lib.Math.max.code 2 (some .int) ∈ fw_WS := fw_in (fw_tb (i := 30) (by decide +kernel)) rfl
theorem ac_int : Cond.arrayClass .int ∈ fw_WS := fw_in (fw_tb (i := 44) (by decide +kernel)) rfl
theorem ac_boolean : Cond.arrayClass .boolean ∈ fw_WS := fw_in (fw_tb (i := 160) (by decide +kernel)) rfl
def y_Frame_init : MethodName := ⟨"FederationWire$Frame", "<init>", "()V"⟩
theorem yi_Frame_init : Cond.instanceMethod y_Frame_init ∈ fw_WS := fw_in (fw_tb (i := 58) (by decide +kernel)) rfl
def y_Frame_begin : MethodName := ⟨"FederationWire$Frame", "begin", "(II)V"⟩
theorem yi_Frame_begin : Cond.instanceMethod y_Frame_begin ∈ fw_WS := fw_in (fw_tb (i := 370) (by decide +kernel)) rfl
theorem ys_Frame_begin : Cond.selects y_Frame_begin.cls y_Frame_begin y_Frame_begin ∈ fw_WS := fw_in (fw_tb (i := 371) (by decide +kernel)) rfl
def y_Frame_put : MethodName := ⟨"FederationWire$Frame", "put", "(I)V"⟩
theorem yi_Frame_put : Cond.instanceMethod y_Frame_put ∈ fw_WS := fw_in (fw_tb (i := 374) (by decide +kernel)) rfl
theorem ys_Frame_put : Cond.selects y_Frame_put.cls y_Frame_put y_Frame_put ∈ fw_WS := fw_in (fw_tb (i := 375) (by decide +kernel)) rfl
def y_Frame_byteAt : MethodName := ⟨"FederationWire$Frame", "byteAt", "(I)I"⟩
theorem yi_Frame_byteAt : Cond.instanceMethod y_Frame_byteAt ∈ fw_WS := fw_in (fw_tb (i := 234) (by decide +kernel)) rfl
theorem ys_Frame_byteAt : Cond.selects y_Frame_byteAt.cls y_Frame_byteAt y_Frame_byteAt ∈ fw_WS := fw_in (fw_tb (i := 235) (by decide +kernel)) rfl
def y_Frame_sum : MethodName := ⟨"FederationWire$Frame", "sum", "()I"⟩
theorem yi_Frame_sum : Cond.instanceMethod y_Frame_sum ∈ fw_WS := fw_in (fw_tb (i := 238) (by decide +kernel)) rfl
theorem ys_Frame_sum : Cond.selects y_Frame_sum.cls y_Frame_sum y_Frame_sum ∈ fw_WS := fw_in (fw_tb (i := 239) (by decide +kernel)) rfl
def y_Pairs_init : MethodName := ⟨"FederationWire$Pairs", "<init>", "(I)V"⟩
theorem yi_Pairs_init : Cond.instanceMethod y_Pairs_init ∈ fw_WS := fw_in (fw_tb (i := 25) (by decide +kernel)) rfl
def y_Memory_init : MethodName := ⟨"FederationWire$Memory", "<init>", "()V"⟩
theorem yi_Memory_init : Cond.instanceMethod y_Memory_init ∈ fw_WS := fw_in (fw_tb (i := 85) (by decide +kernel)) rfl
def y_Pairs_add : MethodName := ⟨"FederationWire$Pairs", "add", "(II)Z"⟩
theorem yi_Pairs_add : Cond.instanceMethod y_Pairs_add ∈ fw_WS := fw_in (fw_tb (i := 265) (by decide +kernel)) rfl
theorem ys_Pairs_add : Cond.selects y_Pairs_add.cls y_Pairs_add y_Pairs_add ∈ fw_WS := fw_in (fw_tb (i := 266) (by decide +kernel)) rfl
def y_Pairs_keyAt : MethodName := ⟨"FederationWire$Pairs", "keyAt", "(I)I"⟩
theorem yi_Pairs_keyAt : Cond.instanceMethod y_Pairs_keyAt ∈ fw_WS := fw_in (fw_tb (i := 283) (by decide +kernel)) rfl
theorem ys_Pairs_keyAt : Cond.selects y_Pairs_keyAt.cls y_Pairs_keyAt y_Pairs_keyAt ∈ fw_WS := fw_in (fw_tb (i := 284) (by decide +kernel)) rfl
def y_Pairs_valueAt : MethodName := ⟨"FederationWire$Pairs", "valueAt", "(I)I"⟩
theorem yi_Pairs_valueAt : Cond.instanceMethod y_Pairs_valueAt ∈ fw_WS := fw_in (fw_tb (i := 287) (by decide +kernel)) rfl
theorem ys_Pairs_valueAt : Cond.selects y_Pairs_valueAt.cls y_Pairs_valueAt y_Pairs_valueAt ∈ fw_WS := fw_in (fw_tb (i := 288) (by decide +kernel)) rfl
def y_Pairs_clear : MethodName := ⟨"FederationWire$Pairs", "clear", "()V"⟩
theorem yi_Pairs_clear : Cond.instanceMethod y_Pairs_clear ∈ fw_WS := fw_in (fw_tb (i := 354) (by decide +kernel)) rfl
theorem ys_Pairs_clear : Cond.selects y_Pairs_clear.cls y_Pairs_clear y_Pairs_clear ∈ fw_WS := fw_in (fw_tb (i := 355) (by decide +kernel)) rfl
def y_Request_addKey : MethodName := ⟨"FederationWire$Request", "addKey", "(I)V"⟩
theorem yi_Request_addKey : Cond.instanceMethod y_Request_addKey ∈ fw_WS := fw_in (fw_tb (i := 293) (by decide +kernel)) rfl
theorem ys_Request_addKey : Cond.selects y_Request_addKey.cls y_Request_addKey y_Request_addKey ∈ fw_WS := fw_in (fw_ts 6 (by decide +kernel)) rfl
def y_Request_hasKeysLeft : MethodName := ⟨"FederationWire$Request", "hasKeysLeft", "()Z"⟩
theorem yi_Request_hasKeysLeft : Cond.instanceMethod y_Request_hasKeysLeft ∈ fw_WS := fw_in (fw_tb (i := 358) (by decide +kernel)) rfl
theorem ys_Request_hasKeysLeft : Cond.selects y_Request_hasKeysLeft.cls y_Request_hasKeysLeft y_Request_hasKeysLeft ∈ fw_WS := fw_in (fw_tb (i := 359) (by decide +kernel)) rfl
def y_Request_nextStep : MethodName := ⟨"FederationWire$Request", "nextStep", "(I)V"⟩
theorem yi_Request_nextStep : Cond.instanceMethod y_Request_nextStep ∈ fw_WS := fw_in (fw_tb (i := 367) (by decide +kernel)) rfl
theorem ys_Request_nextStep : Cond.selects y_Request_nextStep.cls y_Request_nextStep y_Request_nextStep ∈ fw_WS := fw_in (fw_ts 7 (by decide +kernel)) rfl
def y_Request_writeAsk : MethodName := ⟨"FederationWire$Request", "writeAsk", "()V"⟩
theorem yi_Request_writeAsk : Cond.instanceMethod y_Request_writeAsk ∈ fw_WS := fw_in (fw_tb (i := 362) (by decide +kernel)) rfl
theorem ys_Request_writeAsk : Cond.selects y_Request_writeAsk.cls y_Request_writeAsk y_Request_writeAsk ∈ fw_WS := fw_in (fw_tb (i := 363) (by decide +kernel)) rfl
def y_Request_writeMore : MethodName := ⟨"FederationWire$Request", "writeMore", "()V"⟩
theorem yi_Request_writeMore : Cond.instanceMethod y_Request_writeMore ∈ fw_WS := fw_in (fw_tb (i := 466) (by decide +kernel)) rfl
theorem ys_Request_writeMore : Cond.selects y_Request_writeMore.cls y_Request_writeMore y_Request_writeMore ∈ fw_WS := fw_in (fw_tb (i := 467) (by decide +kernel)) rfl
def y_Request_waitsFor : MethodName := ⟨"FederationWire$Request", "waitsFor", "(LFederationWire$Frame;I)Z"⟩
theorem yi_Request_waitsFor : Cond.instanceMethod y_Request_waitsFor ∈ fw_WS := fw_in (fw_tb (i := 451) (by decide +kernel)) rfl
theorem ys_Request_waitsFor : Cond.selects y_Request_waitsFor.cls y_Request_waitsFor y_Request_waitsFor ∈ fw_WS := fw_in (fw_tb (i := 452) (by decide +kernel)) rfl
def y_Request_takeRows : MethodName := ⟨"FederationWire$Request", "takeRows", "(LFederationWire$Frame;)V"⟩
theorem yi_Request_takeRows : Cond.instanceMethod y_Request_takeRows ∈ fw_WS := fw_in (fw_tb (i := 461) (by decide +kernel)) rfl
theorem ys_Request_takeRows : Cond.selects y_Request_takeRows.cls y_Request_takeRows y_Request_takeRows ∈ fw_WS := fw_in (fw_tb (i := 462) (by decide +kernel)) rfl
def y_Request_fail : MethodName := ⟨"FederationWire$Request", "fail", "(I)V"⟩
theorem yi_Request_fail : Cond.instanceMethod y_Request_fail ∈ fw_WS := fw_in (fw_tb (i := 456) (by decide +kernel)) rfl
theorem ys_Request_fail : Cond.selects y_Request_fail.cls y_Request_fail y_Request_fail ∈ fw_WS := fw_in (fw_tb (i := 457) (by decide +kernel)) rfl
def y_Request_joinedSize : MethodName := ⟨"FederationWire$Request", "joinedSize", "()I"⟩
theorem yi_Request_joinedSize : Cond.instanceMethod y_Request_joinedSize ∈ fw_WS := fw_in (fw_tb (i := 509) (by decide +kernel)) rfl
theorem ys_Request_joinedSize : Cond.selects y_Request_joinedSize.cls y_Request_joinedSize y_Request_joinedSize ∈ fw_WS := fw_in (fw_tb (i := 510) (by decide +kernel)) rfl
def y_Request_silentPart : MethodName := ⟨"FederationWire$Request", "silentPart", "(IZ)I"⟩
theorem yi_Request_silentPart : Cond.instanceMethod y_Request_silentPart ∈ fw_WS := fw_in (fw_tb (i := 528) (by decide +kernel)) rfl
theorem ys_Request_silentPart : Cond.selects y_Request_silentPart.cls y_Request_silentPart y_Request_silentPart ∈ fw_WS := fw_in (fw_ts 23 (by decide +kernel)) rfl
def y_Request_joinedPart : MethodName := ⟨"FederationWire$Request", "joinedPart", "(IZ)I"⟩
theorem yi_Request_joinedPart : Cond.instanceMethod y_Request_joinedPart ∈ fw_WS := fw_in (fw_tb (i := 523) (by decide +kernel)) rfl
theorem ys_Request_joinedPart : Cond.selects y_Request_joinedPart.cls y_Request_joinedPart y_Request_joinedPart ∈ fw_WS := fw_in (fw_tb (i := 524) (by decide +kernel)) rfl
def y_ServingEnd_init : MethodName := ⟨"FederationWire$ServingEnd", "<init>", "()V"⟩
theorem yi_ServingEnd_init : Cond.instanceMethod y_ServingEnd_init ∈ fw_WS := fw_in (fw_tb (i := 48) (by decide +kernel)) rfl
def y_ServingEnd_memoryAt : MethodName := ⟨"FederationWire$ServingEnd", "memoryAt", "(I)LFederationWire$Memory;"⟩
theorem yi_ServingEnd_memoryAt : Cond.instanceMethod y_ServingEnd_memoryAt ∈ fw_WS := fw_in (fw_tb (i := 420) (by decide +kernel)) rfl
theorem ys_ServingEnd_memoryAt : Cond.selects y_ServingEnd_memoryAt.cls y_ServingEnd_memoryAt y_ServingEnd_memoryAt ∈ fw_WS := fw_in (fw_ts 14 (by decide +kernel)) rfl
def y_ServingEnd_placeOf : MethodName := ⟨"FederationWire$ServingEnd", "placeOf", "(I)I"⟩
theorem yi_ServingEnd_placeOf : Cond.instanceMethod y_ServingEnd_placeOf ∈ fw_WS := fw_in (fw_tb (i := 416) (by decide +kernel)) rfl
theorem ys_ServingEnd_placeOf : Cond.selects y_ServingEnd_placeOf.cls y_ServingEnd_placeOf y_ServingEnd_placeOf ∈ fw_WS := fw_in (fw_ts 13 (by decide +kernel)) rfl
def y_ServingEnd_memoryFor : MethodName := ⟨"FederationWire$ServingEnd", "memoryFor", "(I)LFederationWire$Memory;"⟩
theorem yi_ServingEnd_memoryFor : Cond.instanceMethod y_ServingEnd_memoryFor ∈ fw_WS := fw_in (fw_tb (i := 425) (by decide +kernel)) rfl
theorem ys_ServingEnd_memoryFor : Cond.selects y_ServingEnd_memoryFor.cls y_ServingEnd_memoryFor y_ServingEnd_memoryFor ∈ fw_WS := fw_in (fw_ts 15 (by decide +kernel)) rfl
def y_ServingEnd_remember : MethodName := ⟨"FederationWire$ServingEnd", "remember", "(LFederationWire$Memory;LFederationWire$Frame;)V"⟩
theorem yi_ServingEnd_remember : Cond.instanceMethod y_ServingEnd_remember ∈ fw_WS := fw_in (fw_tb (i := 429) (by decide +kernel)) rfl
theorem ys_ServingEnd_remember : Cond.selects y_ServingEnd_remember.cls y_ServingEnd_remember y_ServingEnd_remember ∈ fw_WS := fw_in (fw_ts 16 (by decide +kernel)) rfl
def y_ServingEnd_writeRows : MethodName := ⟨"FederationWire$ServingEnd", "writeRows", "(LFederationWire$Memory;II)V"⟩
theorem yi_ServingEnd_writeRows : Cond.instanceMethod y_ServingEnd_writeRows ∈ fw_WS := fw_in (fw_tb (i := 437) (by decide +kernel)) rfl
theorem ys_ServingEnd_writeRows : Cond.selects y_ServingEnd_writeRows.cls y_ServingEnd_writeRows y_ServingEnd_writeRows ∈ fw_WS := fw_in (fw_ts 17 (by decide +kernel)) rfl
def y_ServingEnd_answerAsk : MethodName := ⟨"FederationWire$ServingEnd", "answerAsk", "(LFederationWire$Frame;)V"⟩
theorem yi_ServingEnd_answerAsk : Cond.instanceMethod y_ServingEnd_answerAsk ∈ fw_WS := fw_in (fw_tb (i := 411) (by decide +kernel)) rfl
theorem ys_ServingEnd_answerAsk : Cond.selects y_ServingEnd_answerAsk.cls y_ServingEnd_answerAsk y_ServingEnd_answerAsk ∈ fw_WS := fw_in (fw_tb (i := 412) (by decide +kernel)) rfl
def y_ServingEnd_answerMore : MethodName := ⟨"FederationWire$ServingEnd", "answerMore", "(LFederationWire$Frame;)V"⟩
theorem yi_ServingEnd_answerMore : Cond.instanceMethod y_ServingEnd_answerMore ∈ fw_WS := fw_in (fw_tb (i := 443) (by decide +kernel)) rfl
theorem ys_ServingEnd_answerMore : Cond.selects y_ServingEnd_answerMore.cls y_ServingEnd_answerMore y_ServingEnd_answerMore ∈ fw_WS := fw_in (fw_tb (i := 444) (by decide +kernel)) rfl
def y_Wire_init : MethodName := ⟨"FederationWire$Wire", "<init>", "(Z)V"⟩
theorem yi_Wire_init : Cond.instanceMethod y_Wire_init ∈ fw_WS := fw_in (fw_tb (i := 129) (by decide +kernel)) rfl
def y_Wire_clearOut : MethodName := ⟨"FederationWire$Wire", "clearOut", "()V"⟩
theorem yi_Wire_clearOut : Cond.instanceMethod y_Wire_clearOut ∈ fw_WS := fw_in (fw_tb (i := 250) (by decide +kernel)) rfl
theorem ys_Wire_clearOut : Cond.selects y_Wire_clearOut.cls y_Wire_clearOut y_Wire_clearOut ∈ fw_WS := fw_in (fw_tb (i := 251) (by decide +kernel)) rfl
def y_Wire_end : MethodName := ⟨"FederationWire$Wire", "end", "()V"⟩
theorem yi_Wire_end : Cond.instanceMethod y_Wire_end ∈ fw_WS := fw_in (fw_tb (i := 246) (by decide +kernel)) rfl
theorem ys_Wire_end : Cond.selects y_Wire_end.cls y_Wire_end y_Wire_end ∈ fw_WS := fw_in (fw_tb (i := 247) (by decide +kernel)) rfl
def y_Wire_push : MethodName := ⟨"FederationWire$Wire", "push", "(I)V"⟩
theorem yi_Wire_push : Cond.instanceMethod y_Wire_push ∈ fw_WS := fw_in (fw_tb (i := 231) (by decide +kernel)) rfl
theorem ys_Wire_push : Cond.selects y_Wire_push.cls y_Wire_push y_Wire_push ∈ fw_WS := fw_in (fw_ts 5 (by decide +kernel)) rfl
def y_Wire_takeFirst : MethodName := ⟨"FederationWire$Wire", "takeFirst", "()I"⟩
theorem yi_Wire_takeFirst : Cond.instanceMethod y_Wire_takeFirst ∈ fw_WS := fw_in (fw_tb (i := 478) (by decide +kernel)) rfl
theorem ys_Wire_takeFirst : Cond.selects y_Wire_takeFirst.cls y_Wire_takeFirst y_Wire_takeFirst ∈ fw_WS := fw_in (fw_tb (i := 479) (by decide +kernel)) rfl
def y_Wire_lengthSuits : MethodName := ⟨"FederationWire$Wire", "lengthSuits", "(I)Z"⟩
theorem yi_Wire_lengthSuits : Cond.instanceMethod y_Wire_lengthSuits ∈ fw_WS := fw_in (fw_tb (i := 398) (by decide +kernel)) rfl
theorem ys_Wire_lengthSuits : Cond.selects y_Wire_lengthSuits.cls y_Wire_lengthSuits y_Wire_lengthSuits ∈ fw_WS := fw_in (fw_ts 10 (by decide +kernel)) rfl
def y_Wire_suits : MethodName := ⟨"FederationWire$Wire", "suits", "(I)Z"⟩
theorem yi_Wire_suits : Cond.instanceMethod y_Wire_suits ∈ fw_WS := fw_in (fw_tb (i := 394) (by decide +kernel)) rfl
theorem ys_Wire_suits : Cond.selects y_Wire_suits.cls y_Wire_suits y_Wire_suits ∈ fw_WS := fw_in (fw_ts 9 (by decide +kernel)) rfl
def y_Wire_keep : MethodName := ⟨"FederationWire$Wire", "keep", "(I)V"⟩
theorem yi_Wire_keep : Cond.instanceMethod y_Wire_keep ∈ fw_WS := fw_in (fw_tb (i := 402) (by decide +kernel)) rfl
theorem ys_Wire_keep : Cond.selects y_Wire_keep.cls y_Wire_keep y_Wire_keep ∈ fw_WS := fw_in (fw_ts 11 (by decide +kernel)) rfl
def y_Wire_accept : MethodName := ⟨"FederationWire$Wire", "accept", "(I)I"⟩
theorem yi_Wire_accept : Cond.instanceMethod y_Wire_accept ∈ fw_WS := fw_in (fw_tb (i := 389) (by decide +kernel)) rfl
theorem ys_Wire_accept : Cond.selects y_Wire_accept.cls y_Wire_accept y_Wire_accept ∈ fw_WS := fw_in (fw_tb (i := 390) (by decide +kernel)) rfl
def y_FW_init : MethodName := ⟨"FederationWire", "<init>", "()V"⟩
theorem yi_FW_init : Cond.instanceMethod y_FW_init ∈ fw_WS := fw_in (fw_tb (i := 13) (by decide +kernel)) rfl
def y_FW_wireAt : MethodName := ⟨"FederationWire", "wireAt", "(I)LFederationWire$Wire;"⟩
theorem yi_FW_wireAt : Cond.instanceMethod y_FW_wireAt ∈ fw_WS := fw_in (fw_tb (i := 211) (by decide +kernel)) rfl
theorem ys_FW_wireAt : Cond.selects y_FW_wireAt.cls y_FW_wireAt y_FW_wireAt ∈ fw_WS := fw_in (fw_ts 1 (by decide +kernel)) rfl
def y_FW_houseWire : MethodName := ⟨"FederationWire", "houseWire", "(I)LFederationWire$Wire;"⟩
theorem yi_FW_houseWire : Cond.instanceMethod y_FW_houseWire ∈ fw_WS := fw_in (fw_tb (i := 207) (by decide +kernel)) rfl
theorem ys_FW_houseWire : Cond.selects y_FW_houseWire.cls y_FW_houseWire y_FW_houseWire ∈ fw_WS := fw_in (fw_ts 0 (by decide +kernel)) rfl
def y_FW_requestAt : MethodName := ⟨"FederationWire", "requestAt", "(I)LFederationWire$Request;"⟩
theorem yi_FW_requestAt : Cond.instanceMethod y_FW_requestAt ∈ fw_WS := fw_in (fw_tb (i := 215) (by decide +kernel)) rfl
theorem ys_FW_requestAt : Cond.selects y_FW_requestAt.cls y_FW_requestAt y_FW_requestAt ∈ fw_WS := fw_in (fw_ts 2 (by decide +kernel)) rfl
def y_Wire_send : MethodName := ⟨"FederationWire$Wire", "send", "(LFederationWire$Frame;)Z"⟩
theorem yi_Wire_send : Cond.instanceMethod y_Wire_send ∈ fw_WS := fw_in (fw_tb (i := 226) (by decide +kernel)) rfl
theorem ys_Wire_send : Cond.selects y_Wire_send.cls y_Wire_send y_Wire_send ∈ fw_WS := fw_in (fw_tb (i := 227) (by decide +kernel)) rfl
def y_FW_send : MethodName := ⟨"FederationWire", "send", "(LFederationWire$Frame;LFederationWire$Wire;)Z"⟩
theorem yi_FW_send : Cond.instanceMethod y_FW_send ∈ fw_WS := fw_in (fw_tb (i := 223) (by decide +kernel)) rfl
theorem ys_FW_send : Cond.selects y_FW_send.cls y_FW_send y_FW_send ∈ fw_WS := fw_in (fw_ts 4 (by decide +kernel)) rfl
def y_FW_sendFirst : MethodName := ⟨"FederationWire", "sendFirst", "(LFederationWire$Request;LFederationWire$Wire;)Z"⟩
theorem yi_FW_sendFirst : Cond.instanceMethod y_FW_sendFirst ∈ fw_WS := fw_in (fw_tb (i := 219) (by decide +kernel)) rfl
theorem ys_FW_sendFirst : Cond.selects y_FW_sendFirst.cls y_FW_sendFirst y_FW_sendFirst ∈ fw_WS := fw_in (fw_ts 3 (by decide +kernel)) rfl
def y_FW_up : MethodName := ⟨"FederationWire", "up", "(I)I"⟩
theorem yi_FW_up : Cond.instanceMethod y_FW_up ∈ fw_WS := fw_in (fw_tb (i := 202) (by decide +kernel)) rfl
theorem ys_FW_up : Cond.selects y_FW_up.cls y_FW_up y_FW_up ∈ fw_WS := fw_in (fw_tb (i := 203) (by decide +kernel)) rfl
def y_FW_down : MethodName := ⟨"FederationWire", "down", "(I)I"⟩
theorem yi_FW_down : Cond.instanceMethod y_FW_down ∈ fw_WS := fw_in (fw_tb (i := 242) (by decide +kernel)) rfl
theorem ys_FW_down : Cond.selects y_FW_down.cls y_FW_down y_FW_down ∈ fw_WS := fw_in (fw_tb (i := 243) (by decide +kernel)) rfl
def y_FW_setting : MethodName := ⟨"FederationWire", "setting", "(II)I"⟩
theorem yi_FW_setting : Cond.instanceMethod y_FW_setting ∈ fw_WS := fw_in (fw_tb (i := 254) (by decide +kernel)) rfl
theorem ys_FW_setting : Cond.selects y_FW_setting.cls y_FW_setting y_FW_setting ∈ fw_WS := fw_in (fw_tb (i := 255) (by decide +kernel)) rfl
def y_FW_isByte : MethodName := ⟨"FederationWire", "isByte", "(I)Z"⟩
theorem yt_FW_isByte : Cond.static y_FW_isByte ∈ fw_WS := fw_in (fw_tb (i := 262) (by decide +kernel)) rfl
def y_FW_bind : MethodName := ⟨"FederationWire", "bind", "(II)I"⟩
theorem yi_FW_bind : Cond.instanceMethod y_FW_bind ∈ fw_WS := fw_in (fw_tb (i := 258) (by decide +kernel)) rfl
theorem ys_FW_bind : Cond.selects y_FW_bind.cls y_FW_bind y_FW_bind ∈ fw_WS := fw_in (fw_tb (i := 259) (by decide +kernel)) rfl
def y_Request_init : MethodName := ⟨"FederationWire$Request", "<init>", "(IIZILFederationWire$Pairs;)V"⟩
theorem yi_Request_init : Cond.instanceMethod y_Request_init ∈ fw_WS := fw_in (fw_tb (i := 274) (by decide +kernel)) rfl
def y_FW_ask : MethodName := ⟨"FederationWire", "ask", "(IZ)I"⟩
theorem yi_FW_ask : Cond.instanceMethod y_FW_ask ∈ fw_WS := fw_in (fw_tb (i := 269) (by decide +kernel)) rfl
theorem ys_FW_ask : Cond.selects y_FW_ask.cls y_FW_ask y_FW_ask ∈ fw_WS := fw_in (fw_tb (i := 270) (by decide +kernel)) rfl
def y_FW_learn : MethodName := ⟨"FederationWire", "learn", "(LFederationWire$Request;)V"⟩
theorem yi_FW_learn : Cond.instanceMethod y_FW_learn ∈ fw_WS := fw_in (fw_tb (i := 471) (by decide +kernel)) rfl
theorem ys_FW_learn : Cond.selects y_FW_learn.cls y_FW_learn y_FW_learn ∈ fw_WS := fw_in (fw_ts 19 (by decide +kernel)) rfl
def y_FW_hear : MethodName := ⟨"FederationWire", "hear", "(LFederationWire$Frame;ILFederationWire$Wire;)Z"⟩
theorem yi_FW_hear : Cond.instanceMethod y_FW_hear ∈ fw_WS := fw_in (fw_tb (i := 448) (by decide +kernel)) rfl
theorem ys_FW_hear : Cond.selects y_FW_hear.cls y_FW_hear y_FW_hear ∈ fw_WS := fw_in (fw_ts 18 (by decide +kernel)) rfl
def y_FW_serve : MethodName := ⟨"FederationWire", "serve", "(LFederationWire$Frame;LFederationWire$Wire;)Z"⟩
theorem yi_FW_serve : Cond.instanceMethod y_FW_serve ∈ fw_WS := fw_in (fw_tb (i := 408) (by decide +kernel)) rfl
theorem ys_FW_serve : Cond.selects y_FW_serve.cls y_FW_serve y_FW_serve ∈ fw_WS := fw_in (fw_ts 12 (by decide +kernel)) rfl
def y_FW_take : MethodName := ⟨"FederationWire", "take", "(ILFederationWire$Wire;I)I"⟩
theorem yi_FW_take : Cond.instanceMethod y_FW_take ∈ fw_WS := fw_in (fw_tb (i := 386) (by decide +kernel)) rfl
theorem ys_FW_take : Cond.selects y_FW_take.cls y_FW_take y_FW_take ∈ fw_WS := fw_in (fw_ts 8 (by decide +kernel)) rfl
def y_FW_octet : MethodName := ⟨"FederationWire", "octet", "(IB)I"⟩
theorem yi_FW_octet : Cond.instanceMethod y_FW_octet ∈ fw_WS := fw_in (fw_tb (i := 381) (by decide +kernel)) rfl
theorem ys_FW_octet : Cond.selects y_FW_octet.cls y_FW_octet y_FW_octet ∈ fw_WS := fw_in (fw_tb (i := 382) (by decide +kernel)) rfl
def y_FW_out : MethodName := ⟨"FederationWire", "out", "(I)I"⟩
theorem yi_FW_out : Cond.instanceMethod y_FW_out ∈ fw_WS := fw_in (fw_tb (i := 474) (by decide +kernel)) rfl
theorem ys_FW_out : Cond.selects y_FW_out.cls y_FW_out y_FW_out ∈ fw_WS := fw_in (fw_tb (i := 475) (by decide +kernel)) rfl
def y_FW_loop : MethodName := ⟨"FederationWire", "loop", "(II)I"⟩
theorem yi_FW_loop : Cond.instanceMethod y_FW_loop ∈ fw_WS := fw_in (fw_tb (i := 482) (by decide +kernel)) rfl
theorem ys_FW_loop : Cond.selects y_FW_loop.cls y_FW_loop y_FW_loop ∈ fw_WS := fw_in (fw_tb (i := 483) (by decide +kernel)) rfl
def y_FW_earliestDue : MethodName := ⟨"FederationWire", "earliestDue", "()I"⟩
theorem yi_FW_earliestDue : Cond.instanceMethod y_FW_earliestDue ∈ fw_WS := fw_in (fw_tb (i := 493) (by decide +kernel)) rfl
theorem ys_FW_earliestDue : Cond.selects y_FW_earliestDue.cls y_FW_earliestDue y_FW_earliestDue ∈ fw_WS := fw_in (fw_ts 20 (by decide +kernel)) rfl
def y_FW_repeat : MethodName := ⟨"FederationWire", "repeat", "(LFederationWire$Request;)V"⟩
theorem yi_FW_repeat : Cond.instanceMethod y_FW_repeat ∈ fw_WS := fw_in (fw_tb (i := 502) (by decide +kernel)) rfl
theorem ys_FW_repeat : Cond.selects y_FW_repeat.cls y_FW_repeat y_FW_repeat ∈ fw_WS := fw_in (fw_ts 22 (by decide +kernel)) rfl
def y_FW_settleDue : MethodName := ⟨"FederationWire", "settleDue", "()I"⟩
theorem yi_FW_settleDue : Cond.instanceMethod y_FW_settleDue ∈ fw_WS := fw_in (fw_tb (i := 498) (by decide +kernel)) rfl
theorem ys_FW_settleDue : Cond.selects y_FW_settleDue.cls y_FW_settleDue y_FW_settleDue ∈ fw_WS := fw_in (fw_ts 21 (by decide +kernel)) rfl
def y_FW_tick : MethodName := ⟨"FederationWire", "tick", "(I)I"⟩
theorem yi_FW_tick : Cond.instanceMethod y_FW_tick ∈ fw_WS := fw_in (fw_tb (i := 488) (by decide +kernel)) rfl
theorem ys_FW_tick : Cond.selects y_FW_tick.cls y_FW_tick y_FW_tick ∈ fw_WS := fw_in (fw_tb (i := 489) (by decide +kernel)) rfl
def y_FW_told : MethodName := ⟨"FederationWire", "told", "(II)I"⟩
theorem yi_FW_told : Cond.instanceMethod y_FW_told ∈ fw_WS := fw_in (fw_tb (i := 505) (by decide +kernel)) rfl
theorem ys_FW_told : Cond.selects y_FW_told.cls y_FW_told y_FW_told ∈ fw_WS := fw_in (fw_tb (i := 506) (by decide +kernel)) rfl
def y_FW_row : MethodName := ⟨"FederationWire", "row", "(III)I"⟩
theorem yi_FW_row : Cond.instanceMethod y_FW_row ∈ fw_WS := fw_in (fw_tb (i := 513) (by decide +kernel)) rfl
theorem ys_FW_row : Cond.selects y_FW_row.cls y_FW_row y_FW_row ∈ fw_WS := fw_in (fw_tb (i := 514) (by decide +kernel)) rfl
def y_FW_joined : MethodName := ⟨"FederationWire", "joined", "(III)I"⟩
theorem yi_FW_joined : Cond.instanceMethod y_FW_joined ∈ fw_WS := fw_in (fw_tb (i := 519) (by decide +kernel)) rfl
theorem ys_FW_joined : Cond.selects y_FW_joined.cls y_FW_joined y_FW_joined ∈ fw_WS := fw_in (fw_tb (i := 520) (by decide +kernel)) rfl
def y_FW_estimate : MethodName := ⟨"FederationWire", "estimate", "(I)I"⟩
theorem yi_FW_estimate : Cond.instanceMethod y_FW_estimate ∈ fw_WS := fw_in (fw_tb (i := 531) (by decide +kernel)) rfl
theorem ys_FW_estimate : Cond.selects y_FW_estimate.cls y_FW_estimate y_FW_estimate ∈ fw_WS := fw_in (fw_tb (i := 532) (by decide +kernel)) rfl
def y_FW_fact : MethodName := ⟨"FederationWire", "fact", "(II)I"⟩
theorem yi_FW_fact : Cond.instanceMethod y_FW_fact ∈ fw_WS := fw_in (fw_tb (i := 535) (by decide +kernel)) rfl
theorem ys_FW_fact : Cond.selects y_FW_fact.cls y_FW_fact y_FW_fact ∈ fw_WS := fw_in (fw_tb (i := 536) (by decide +kernel)) rfl
def y_FW_count : MethodName := ⟨"FederationWire", "count", "(I)I"⟩
theorem yi_FW_count : Cond.instanceMethod y_FW_count ∈ fw_WS := fw_in (fw_tb (i := 539) (by decide +kernel)) rfl
theorem ys_FW_count : Cond.selects y_FW_count.cls y_FW_count y_FW_count ∈ fw_WS := fw_in (fw_tb (i := 540) (by decide +kernel)) rfl
def y_FW_line : MethodName := ⟨"FederationWire", "line", "(II)I"⟩
theorem yi_FW_line : Cond.instanceMethod y_FW_line ∈ fw_WS := fw_in (fw_tb (i := 543) (by decide +kernel)) rfl
theorem ys_FW_line : Cond.selects y_FW_line.cls y_FW_line y_FW_line ∈ fw_WS := fw_in (fw_tb (i := 544) (by decide +kernel)) rfl
def y_Mo_init : MethodName := ⟨"FederationWireModel", "<init>", "()V"⟩
theorem yi_Mo_init : Cond.instanceMethod y_Mo_init ∈ fw_WS := fw_in (fw_tb (i := 549) (by decide +kernel)) rfl
def y_Mo_isIn : MethodName := ⟨"FederationWireModel", "isIn", "(III)Z"⟩
theorem yt_Mo_isIn : Cond.static y_Mo_isIn ∈ fw_WS := fw_in (fw_tb (i := 711) (by decide +kernel)) rfl
def y_Mo_send : MethodName := ⟨"FederationWireModel", "send", "(III)Z"⟩
theorem yi_Mo_send : Cond.instanceMethod y_Mo_send ∈ fw_WS := fw_in (fw_tb (i := 743) (by decide +kernel)) rfl
theorem ys_Mo_send : Cond.selects y_Mo_send.cls y_Mo_send y_Mo_send ∈ fw_WS := fw_in (fw_ts 29 (by decide +kernel)) rfl
def y_Mo_put : MethodName := ⟨"FederationWireModel", "put", "(I)V"⟩
theorem yi_Mo_put : Cond.instanceMethod y_Mo_put ∈ fw_WS := fw_in (fw_tb (i := 731) (by decide +kernel)) rfl
theorem ys_Mo_put : Cond.selects y_Mo_put.cls y_Mo_put y_Mo_put ∈ fw_WS := fw_in (fw_ts 26 (by decide +kernel)) rfl
def y_Mo_sendLast : MethodName := ⟨"FederationWireModel", "sendLast", "(I)Z"⟩
theorem yi_Mo_sendLast : Cond.instanceMethod y_Mo_sendLast ∈ fw_WS := fw_in (fw_tb (i := 739) (by decide +kernel)) rfl
theorem ys_Mo_sendLast : Cond.selects y_Mo_sendLast.cls y_Mo_sendLast y_Mo_sendLast ∈ fw_WS := fw_in (fw_ts 28 (by decide +kernel)) rfl
def y_Mo_keep : MethodName := ⟨"FederationWireModel", "keep", "(II)V"⟩
theorem yi_Mo_keep : Cond.instanceMethod y_Mo_keep ∈ fw_WS := fw_in (fw_tb (i := 735) (by decide +kernel)) rfl
theorem ys_Mo_keep : Cond.selects y_Mo_keep.cls y_Mo_keep y_Mo_keep ∈ fw_WS := fw_in (fw_ts 27 (by decide +kernel)) rfl
def y_Mo_askPart : MethodName := ⟨"FederationWireModel", "askPart", "(I)V"⟩
theorem yi_Mo_askPart : Cond.instanceMethod y_Mo_askPart ∈ fw_WS := fw_in (fw_tb (i := 727) (by decide +kernel)) rfl
theorem ys_Mo_askPart : Cond.selects y_Mo_askPart.cls y_Mo_askPart y_Mo_askPart ∈ fw_WS := fw_in (fw_ts 25 (by decide +kernel)) rfl
def y_Mo_finish : MethodName := ⟨"FederationWireModel", "finish", "(I)V"⟩
theorem yi_Mo_finish : Cond.instanceMethod y_Mo_finish ∈ fw_WS := fw_in (fw_tb (i := 802) (by decide +kernel)) rfl
theorem ys_Mo_finish : Cond.selects y_Mo_finish.cls y_Mo_finish y_Mo_finish ∈ fw_WS := fw_in (fw_ts 41 (by decide +kernel)) rfl
def y_Mo_fail : MethodName := ⟨"FederationWireModel", "fail", "(II)V"⟩
theorem yi_Mo_fail : Cond.instanceMethod y_Mo_fail ∈ fw_WS := fw_in (fw_tb (i := 798) (by decide +kernel)) rfl
theorem ys_Mo_fail : Cond.selects y_Mo_fail.cls y_Mo_fail y_Mo_fail ∈ fw_WS := fw_in (fw_ts 40 (by decide +kernel)) rfl
def y_Mo_isFailedSilently : MethodName := ⟨"FederationWireModel", "isFailedSilently", "(I)Z"⟩
theorem yi_Mo_isFailedSilently : Cond.instanceMethod y_Mo_isFailedSilently ∈ fw_WS := fw_in (fw_tb (i := 838) (by decide +kernel)) rfl
theorem ys_Mo_isFailedSilently : Cond.selects y_Mo_isFailedSilently.cls y_Mo_isFailedSilently y_Mo_isFailedSilently ∈ fw_WS := fw_in (fw_ts 44 (by decide +kernel)) rfl
def y_Mo_setting : MethodName := ⟨"FederationWireModel", "setting", "(II)I"⟩
theorem yi_Mo_setting : Cond.instanceMethod y_Mo_setting ∈ fw_WS := fw_in (fw_tb (i := 707) (by decide +kernel)) rfl
theorem ys_Mo_setting : Cond.selects y_Mo_setting.cls y_Mo_setting y_Mo_setting ∈ fw_WS := fw_in (fw_tb (i := 708) (by decide +kernel)) rfl
def y_Mo_bind : MethodName := ⟨"FederationWireModel", "bind", "(II)I"⟩
theorem yi_Mo_bind : Cond.instanceMethod y_Mo_bind ∈ fw_WS := fw_in (fw_tb (i := 714) (by decide +kernel)) rfl
theorem ys_Mo_bind : Cond.selects y_Mo_bind.cls y_Mo_bind y_Mo_bind ∈ fw_WS := fw_in (fw_tb (i := 715) (by decide +kernel)) rfl
def y_Mo_addKey : MethodName := ⟨"FederationWireModel", "addKey", "(II)V"⟩
theorem yi_Mo_addKey : Cond.instanceMethod y_Mo_addKey ∈ fw_WS := fw_in (fw_tb (i := 723) (by decide +kernel)) rfl
theorem ys_Mo_addKey : Cond.selects y_Mo_addKey.cls y_Mo_addKey y_Mo_addKey ∈ fw_WS := fw_in (fw_ts 24 (by decide +kernel)) rfl
def y_Mo_ask : MethodName := ⟨"FederationWireModel", "ask", "(IZ)I"⟩
theorem yi_Mo_ask : Cond.instanceMethod y_Mo_ask ∈ fw_WS := fw_in (fw_tb (i := 718) (by decide +kernel)) rfl
theorem ys_Mo_ask : Cond.selects y_Mo_ask.cls y_Mo_ask y_Mo_ask ∈ fw_WS := fw_in (fw_tb (i := 719) (by decide +kernel)) rfl
def y_Mo_isDropped : MethodName := ⟨"FederationWireModel", "isDropped", "(IIII)Z"⟩
theorem yi_Mo_isDropped : Cond.instanceMethod y_Mo_isDropped ∈ fw_WS := fw_in (fw_tb (i := 794) (by decide +kernel)) rfl
theorem ys_Mo_isDropped : Cond.selects y_Mo_isDropped.cls y_Mo_isDropped y_Mo_isDropped ∈ fw_WS := fw_in (fw_ts 39 (by decide +kernel)) rfl
def y_Mo_fact : MethodName := ⟨"FederationWireModel", "fact", "(II)I"⟩
theorem yi_Mo_fact : Cond.instanceMethod y_Mo_fact ∈ fw_WS := fw_in (fw_tb (i := 746) (by decide +kernel)) rfl
theorem ys_Mo_fact : Cond.selects y_Mo_fact.cls y_Mo_fact y_Mo_fact ∈ fw_WS := fw_in (fw_tb (i := 747) (by decide +kernel)) rfl
def y_Mo_placeOf : MethodName := ⟨"FederationWireModel", "placeOf", "(I)I"⟩
theorem yi_Mo_placeOf : Cond.instanceMethod y_Mo_placeOf ∈ fw_WS := fw_in (fw_tb (i := 774) (by decide +kernel)) rfl
theorem ys_Mo_placeOf : Cond.selects y_Mo_placeOf.cls y_Mo_placeOf y_Mo_placeOf ∈ fw_WS := fw_in (fw_ts 34 (by decide +kernel)) rfl
def y_Mo_copy : MethodName := ⟨"FederationWireModel", "copy", "(II)V"⟩
theorem yi_Mo_copy : Cond.instanceMethod y_Mo_copy ∈ fw_WS := fw_in (fw_tb (i := 786) (by decide +kernel)) rfl
theorem ys_Mo_copy : Cond.selects y_Mo_copy.cls y_Mo_copy y_Mo_copy ∈ fw_WS := fw_in (fw_ts 37 (by decide +kernel)) rfl
def y_Mo_forget : MethodName := ⟨"FederationWireModel", "forget", "(I)V"⟩
theorem yi_Mo_forget : Cond.instanceMethod y_Mo_forget ∈ fw_WS := fw_in (fw_tb (i := 782) (by decide +kernel)) rfl
theorem ys_Mo_forget : Cond.selects y_Mo_forget.cls y_Mo_forget y_Mo_forget ∈ fw_WS := fw_in (fw_ts 36 (by decide +kernel)) rfl
def y_Mo_answer : MethodName := ⟨"FederationWireModel", "answer", "(IIII)V"⟩
theorem yi_Mo_answer : Cond.instanceMethod y_Mo_answer ∈ fw_WS := fw_in (fw_tb (i := 790) (by decide +kernel)) rfl
theorem ys_Mo_answer : Cond.selects y_Mo_answer.cls y_Mo_answer y_Mo_answer ∈ fw_WS := fw_in (fw_ts 38 (by decide +kernel)) rfl
def y_Mo_remember : MethodName := ⟨"FederationWireModel", "remember", "(II)V"⟩
theorem yi_Mo_remember : Cond.instanceMethod y_Mo_remember ∈ fw_WS := fw_in (fw_tb (i := 778) (by decide +kernel)) rfl
theorem ys_Mo_remember : Cond.selects y_Mo_remember.cls y_Mo_remember y_Mo_remember ∈ fw_WS := fw_in (fw_ts 35 (by decide +kernel)) rfl
def y_Mo_isServed : MethodName := ⟨"FederationWireModel", "isServed", "(III)Z"⟩
theorem yi_Mo_isServed : Cond.instanceMethod y_Mo_isServed ∈ fw_WS := fw_in (fw_tb (i := 770) (by decide +kernel)) rfl
theorem ys_Mo_isServed : Cond.selects y_Mo_isServed.cls y_Mo_isServed y_Mo_isServed ∈ fw_WS := fw_in (fw_ts 33 (by decide +kernel)) rfl
def y_Mo_end : MethodName := ⟨"FederationWireModel", "end", "(I)V"⟩
theorem yi_Mo_end : Cond.instanceMethod y_Mo_end ∈ fw_WS := fw_in (fw_tb (i := 766) (by decide +kernel)) rfl
theorem ys_Mo_end : Cond.selects y_Mo_end.cls y_Mo_end y_Mo_end ∈ fw_WS := fw_in (fw_ts 32 (by decide +kernel)) rfl
def y_Mo_isLength : MethodName := ⟨"FederationWireModel", "isLength", "(II)Z"⟩
theorem yt_Mo_isLength : Cond.static y_Mo_isLength ∈ fw_WS := fw_in (fw_tb (i := 762) (by decide +kernel)) rfl
def y_Mo_fits : MethodName := ⟨"FederationWireModel", "fits", "(III)Z"⟩
theorem yi_Mo_fits : Cond.instanceMethod y_Mo_fits ∈ fw_WS := fw_in (fw_tb (i := 759) (by decide +kernel)) rfl
theorem ys_Mo_fits : Cond.selects y_Mo_fits.cls y_Mo_fits y_Mo_fits ∈ fw_WS := fw_in (fw_ts 31 (by decide +kernel)) rfl
def y_Mo_come : MethodName := ⟨"FederationWireModel", "come", "(II)I"⟩
theorem yi_Mo_come : Cond.instanceMethod y_Mo_come ∈ fw_WS := fw_in (fw_tb (i := 755) (by decide +kernel)) rfl
theorem ys_Mo_come : Cond.selects y_Mo_come.cls y_Mo_come y_Mo_come ∈ fw_WS := fw_in (fw_ts 30 (by decide +kernel)) rfl
def y_Mo_octet : MethodName := ⟨"FederationWireModel", "octet", "(IB)I"⟩
theorem yi_Mo_octet : Cond.instanceMethod y_Mo_octet ∈ fw_WS := fw_in (fw_tb (i := 750) (by decide +kernel)) rfl
theorem ys_Mo_octet : Cond.selects y_Mo_octet.cls y_Mo_octet y_Mo_octet ∈ fw_WS := fw_in (fw_tb (i := 751) (by decide +kernel)) rfl
def y_Mo_takeOut : MethodName := ⟨"FederationWireModel", "takeOut", "(I)I"⟩
theorem yi_Mo_takeOut : Cond.instanceMethod y_Mo_takeOut ∈ fw_WS := fw_in (fw_tb (i := 810) (by decide +kernel)) rfl
theorem ys_Mo_takeOut : Cond.selects y_Mo_takeOut.cls y_Mo_takeOut y_Mo_takeOut ∈ fw_WS := fw_in (fw_ts 42 (by decide +kernel)) rfl
def y_Mo_out : MethodName := ⟨"FederationWireModel", "out", "(I)I"⟩
theorem yi_Mo_out : Cond.instanceMethod y_Mo_out ∈ fw_WS := fw_in (fw_tb (i := 805) (by decide +kernel)) rfl
theorem ys_Mo_out : Cond.selects y_Mo_out.cls y_Mo_out y_Mo_out ∈ fw_WS := fw_in (fw_tb (i := 806) (by decide +kernel)) rfl
def y_Mo_loop : MethodName := ⟨"FederationWireModel", "loop", "(II)I"⟩
theorem yi_Mo_loop : Cond.instanceMethod y_Mo_loop ∈ fw_WS := fw_in (fw_tb (i := 813) (by decide +kernel)) rfl
theorem ys_Mo_loop : Cond.selects y_Mo_loop.cls y_Mo_loop y_Mo_loop ∈ fw_WS := fw_in (fw_tb (i := 814) (by decide +kernel)) rfl
def y_Mo_up : MethodName := ⟨"FederationWireModel", "up", "(I)I"⟩
theorem yi_Mo_up : Cond.instanceMethod y_Mo_up ∈ fw_WS := fw_in (fw_tb (i := 817) (by decide +kernel)) rfl
theorem ys_Mo_up : Cond.selects y_Mo_up.cls y_Mo_up y_Mo_up ∈ fw_WS := fw_in (fw_tb (i := 818) (by decide +kernel)) rfl
def y_Mo_down : MethodName := ⟨"FederationWireModel", "down", "(I)I"⟩
theorem yi_Mo_down : Cond.instanceMethod y_Mo_down ∈ fw_WS := fw_in (fw_tb (i := 821) (by decide +kernel)) rfl
theorem ys_Mo_down : Cond.selects y_Mo_down.cls y_Mo_down y_Mo_down ∈ fw_WS := fw_in (fw_tb (i := 822) (by decide +kernel)) rfl
def y_Mo_tick : MethodName := ⟨"FederationWireModel", "tick", "(I)I"⟩
theorem yi_Mo_tick : Cond.instanceMethod y_Mo_tick ∈ fw_WS := fw_in (fw_tb (i := 825) (by decide +kernel)) rfl
theorem ys_Mo_tick : Cond.selects y_Mo_tick.cls y_Mo_tick y_Mo_tick ∈ fw_WS := fw_in (fw_tb (i := 826) (by decide +kernel)) rfl
def y_Mo_joinedOnes : MethodName := ⟨"FederationWireModel", "joinedOnes", "(III)I"⟩
theorem yi_Mo_joinedOnes : Cond.instanceMethod y_Mo_joinedOnes ∈ fw_WS := fw_in (fw_tb (i := 834) (by decide +kernel)) rfl
theorem ys_Mo_joinedOnes : Cond.selects y_Mo_joinedOnes.cls y_Mo_joinedOnes y_Mo_joinedOnes ∈ fw_WS := fw_in (fw_ts 43 (by decide +kernel)) rfl
def y_Mo_told : MethodName := ⟨"FederationWireModel", "told", "(II)I"⟩
theorem yi_Mo_told : Cond.instanceMethod y_Mo_told ∈ fw_WS := fw_in (fw_tb (i := 829) (by decide +kernel)) rfl
theorem ys_Mo_told : Cond.selects y_Mo_told.cls y_Mo_told y_Mo_told ∈ fw_WS := fw_in (fw_tb (i := 830) (by decide +kernel)) rfl
def y_Mo_row : MethodName := ⟨"FederationWireModel", "row", "(III)I"⟩
theorem yi_Mo_row : Cond.instanceMethod y_Mo_row ∈ fw_WS := fw_in (fw_tb (i := 841) (by decide +kernel)) rfl
theorem ys_Mo_row : Cond.selects y_Mo_row.cls y_Mo_row y_Mo_row ∈ fw_WS := fw_in (fw_tb (i := 842) (by decide +kernel)) rfl
def y_Mo_joined : MethodName := ⟨"FederationWireModel", "joined", "(III)I"⟩
theorem yi_Mo_joined : Cond.instanceMethod y_Mo_joined ∈ fw_WS := fw_in (fw_tb (i := 845) (by decide +kernel)) rfl
theorem ys_Mo_joined : Cond.selects y_Mo_joined.cls y_Mo_joined y_Mo_joined ∈ fw_WS := fw_in (fw_tb (i := 846) (by decide +kernel)) rfl
def y_Mo_estimate : MethodName := ⟨"FederationWireModel", "estimate", "(I)I"⟩
theorem yi_Mo_estimate : Cond.instanceMethod y_Mo_estimate ∈ fw_WS := fw_in (fw_tb (i := 849) (by decide +kernel)) rfl
theorem ys_Mo_estimate : Cond.selects y_Mo_estimate.cls y_Mo_estimate y_Mo_estimate ∈ fw_WS := fw_in (fw_tb (i := 850) (by decide +kernel)) rfl
def y_Mo_count : MethodName := ⟨"FederationWireModel", "count", "(I)I"⟩
theorem yi_Mo_count : Cond.instanceMethod y_Mo_count ∈ fw_WS := fw_in (fw_tb (i := 853) (by decide +kernel)) rfl
theorem ys_Mo_count : Cond.selects y_Mo_count.cls y_Mo_count y_Mo_count ∈ fw_WS := fw_in (fw_tb (i := 854) (by decide +kernel)) rfl
def y_Mo_line : MethodName := ⟨"FederationWireModel", "line", "(II)I"⟩
theorem yi_Mo_line : Cond.instanceMethod y_Mo_line ∈ fw_WS := fw_in (fw_tb (i := 857) (by decide +kernel)) rfl
theorem ys_Mo_line : Cond.selects y_Mo_line.cls y_Mo_line y_Mo_line ∈ fw_WS := fw_in (fw_tb (i := 858) (by decide +kernel)) rfl
theorem ft_obj_0_3 : Cond.methodLink "FederationWire$Frame" 3 objectInit ∈ fw_WS := fw_in (fw_tb (i := 60) (by decide +kernel)) rfl
theorem ft_field_0_9 : fw_F "FederationWire$Frame" 9 0 0 .int false := ⟨_, _, _, cl_0, by decide, by decide +kernel, by decide, Or.inl (fw_in (fw_tb (i := 61) (by decide +kernel)) rfl)⟩
theorem ft_field_0_15 : fw_F "FederationWire$Frame" 15 0 1 .int false := ⟨_, _, _, cl_0, by decide, by decide +kernel, by decide, Or.inl (fw_in (fw_tb (i := 65) (by decide +kernel)) rfl)⟩
theorem ft_field_0_18 : fw_F "FederationWire$Frame" 18 0 2 .int false := ⟨_, _, _, cl_0, by decide, by decide +kernel, by decide, Or.inl (fw_in (fw_tb (i := 69) (by decide +kernel)) rfl)⟩
theorem ft_field_0_21 : fw_F "FederationWire$Frame" 21 0 3 (.array .int) true := ⟨_, _, _, cl_0, by decide, by decide +kernel, by decide, Or.inl (fw_in (fw_tb (i := 73) (by decide +kernel)) rfl)⟩
theorem ft_nonest_0_21 : ∀ host Cn nm d, Cond.fieldLinkNest "FederationWire$Frame" 21 Cn nm d host ∉ fw_NS := fw_noN "FederationWire$Frame" 21 (by decide +kernel)
theorem ft_obj_2_3 : Cond.methodLink "FederationWire$Pairs" 3 objectInit ∈ fw_WS := fw_in (fw_tb (i := 27) (by decide +kernel)) rfl
theorem ft_field_2_9 : fw_F "FederationWire$Pairs" 9 2 2 .int false := ⟨_, _, _, cl_2, by decide, by decide +kernel, by decide, Or.inl (fw_in (fw_tb (i := 33) (by decide +kernel)) rfl)⟩
theorem ft_max_2_15 : Cond.methodLink "FederationWire$Pairs" 15 Lib.Math.max.name ∈ fw_WS := fw_in (fw_tb (i := 28) (by decide +kernel)) rfl
theorem ft_field_2_21 : fw_F "FederationWire$Pairs" 21 2 0 (.array .int) true := ⟨_, _, _, cl_2, by decide, by decide +kernel, by decide, Or.inl (fw_in (fw_tb (i := 31) (by decide +kernel)) rfl)⟩
theorem ft_nonest_2_21 : ∀ host Cn nm d, Cond.fieldLinkNest "FederationWire$Pairs" 21 Cn nm d host ∉ fw_NS := fw_noN "FederationWire$Pairs" 21 (by decide +kernel)
theorem ft_field_2_25 : fw_F "FederationWire$Pairs" 25 2 1 (.array .int) true := ⟨_, _, _, cl_2, by decide, by decide +kernel, by decide, Or.inl (fw_in (fw_tb (i := 32) (by decide +kernel)) rfl)⟩
theorem ft_nonest_2_25 : ∀ host Cn nm d, Cond.fieldLinkNest "FederationWire$Pairs" 25 Cn nm d host ∉ fw_NS := fw_noN "FederationWire$Pairs" 25 (by decide +kernel)
theorem ft_obj_1_3 : Cond.methodLink "FederationWire$Memory" 3 objectInit ∈ fw_WS := fw_in (fw_tb (i := 87) (by decide +kernel)) rfl
theorem ft_field_1_9 : fw_F "FederationWire$Memory" 9 1 0 .int false := ⟨_, _, _, cl_1, by decide, by decide +kernel, by decide, Or.inl (fw_in (fw_tb (i := 90) (by decide +kernel)) rfl)⟩
theorem ft_field_1_15 : fw_F "FederationWire$Memory" 15 1 1 .int false := ⟨_, _, _, cl_1, by decide, by decide +kernel, by decide, Or.inl (fw_in (fw_tb (i := 92) (by decide +kernel)) rfl)⟩
theorem ft_field_1_18 : fw_F "FederationWire$Memory" 18 1 2 .int false := ⟨_, _, _, cl_1, by decide, by decide +kernel, by decide, Or.inl (fw_in (fw_tb (i := 94) (by decide +kernel)) rfl)⟩
theorem ft_new_1_21 : Cond.classLink "FederationWire$Memory" 21 "FederationWire$Pairs" ∈ fw_WS := fw_in (fw_tb (i := 88) (by decide +kernel)) rfl
theorem ft_callI_1_23 : fw_L "FederationWire$Memory" 23 y_Pairs_init prog_4_method_1_code 3 none 1 := ⟨fw_in (fw_tb (i := 26) (by decide +kernel)) rfl, fw_in (fw_tb (i := 2) (by decide +kernel)) rfl, by decide, by decide +kernel, Or.inl (fw_in (fw_tb (i := 89) (by decide +kernel)) rfl)⟩
theorem ft_field_1_26 : fw_F "FederationWire$Memory" 26 1 3 (.object "FederationWire$Pairs") true := ⟨_, _, _, cl_1, by decide, by decide +kernel, by decide, Or.inl (fw_in (fw_tb (i := 96) (by decide +kernel)) rfl)⟩
theorem ft_nonest_1_26 : ∀ host Cn nm d, Cond.fieldLinkNest "FederationWire$Memory" 26 Cn nm d host ∉ fw_NS := fw_noN "FederationWire$Memory" 26 (by decide +kernel)
theorem ft_field_3_9 : fw_F "FederationWire$Request" 9 3 5 .int false := ⟨_, _, _, cl_3, by decide, by decide +kernel, by decide, Or.inl (fw_in (fw_tb (i := 301) (by decide +kernel)) rfl)⟩
theorem ft_field_3_77 : fw_F "FederationWire$Request" 77 3 4 (.array .int) true := ⟨_, _, _, cl_3, by decide, by decide +kernel, by decide, Or.inl (fw_in (fw_tb (i := 300) (by decide +kernel)) rfl)⟩
theorem ft_obj_3_3 : Cond.methodLink "FederationWire$Request" 3 objectInit ∈ fw_WS := fw_in (fw_tb (i := 276) (by decide +kernel)) rfl
theorem ft_field_3_15 : fw_F "FederationWire$Request" 15 3 6 .int false := ⟨_, _, _, cl_3, by decide, by decide +kernel, by decide, Or.inl (fw_in (fw_tb (i := 303) (by decide +kernel)) rfl)⟩
theorem ft_new_3_18 : Cond.classLink "FederationWire$Request" 18 "FederationWire$Pairs" ∈ fw_WS := fw_in (fw_tb (i := 277) (by decide +kernel)) rfl
theorem ft_callI_3_20 : fw_L "FederationWire$Request" 20 y_Pairs_init prog_4_method_1_code 3 none 1 := ⟨fw_in (fw_tb (i := 26) (by decide +kernel)) rfl, fw_in (fw_tb (i := 2) (by decide +kernel)) rfl, by decide, by decide +kernel, Or.inl (fw_in (fw_tb (i := 278) (by decide +kernel)) rfl)⟩
theorem ft_field_3_23 : fw_F "FederationWire$Request" 23 3 7 (.object "FederationWire$Pairs") true := ⟨_, _, _, cl_3, by decide, by decide +kernel, by decide, Or.inl (fw_in (fw_tb (i := 304) (by decide +kernel)) rfl)⟩
theorem ft_nonest_3_23 : ∀ host Cn nm d, Cond.fieldLinkNest "FederationWire$Request" 23 Cn nm d host ∉ fw_NS := fw_noN "FederationWire$Request" 23 (by decide +kernel)
theorem ft_field_3_27 : fw_F "FederationWire$Request" 27 3 8 .int false := ⟨_, _, _, cl_3, by decide, by decide +kernel, by decide, Or.inl (fw_in (fw_tb (i := 306) (by decide +kernel)) rfl)⟩
theorem ft_new_3_30 : Cond.classLink "FederationWire$Request" 30 "FederationWire$Frame" ∈ fw_WS := fw_in (fw_tb (i := 279) (by decide +kernel)) rfl
theorem ft_callI_3_32 : fw_L "FederationWire$Request" 32 y_Frame_init prog_2_method_1_code 1 none 0 := ⟨fw_in (fw_tb (i := 59) (by decide +kernel)) rfl, fw_in (fw_tb (i := 5) (by decide +kernel)) rfl, by decide, by decide +kernel, Or.inr ⟨"FederationWire", fw_inN (fw_tb (i := 280) (by decide +kernel)) rfl⟩⟩
theorem ft_field_3_33 : fw_F "FederationWire$Request" 33 3 9 (.object "FederationWire$Frame") true := ⟨_, _, _, cl_3, by decide, by decide +kernel, by decide, Or.inl (fw_in (fw_tb (i := 307) (by decide +kernel)) rfl)⟩
theorem ft_nonest_3_33 : ∀ host Cn nm d, Cond.fieldLinkNest "FederationWire$Request" 33 Cn nm d host ∉ fw_NS := fw_noN "FederationWire$Request" 33 (by decide +kernel)
theorem ft_field_3_37 : fw_F "FederationWire$Request" 37 3 11 .int false := ⟨_, _, _, cl_3, by decide, by decide +kernel, by decide, Or.inl (fw_in (fw_tb (i := 310) (by decide +kernel)) rfl)⟩
theorem ft_field_3_40 : fw_F "FederationWire$Request" 40 3 12 .int false := ⟨_, _, _, cl_3, by decide, by decide +kernel, by decide, Or.inl (fw_in (fw_tb (i := 312) (by decide +kernel)) rfl)⟩
theorem ft_field_3_43 : fw_F "FederationWire$Request" 43 3 13 .int false := ⟨_, _, _, cl_3, by decide, by decide +kernel, by decide, Or.inl (fw_in (fw_tb (i := 314) (by decide +kernel)) rfl)⟩
theorem ft_field_3_46 : fw_F "FederationWire$Request" 46 3 14 .int false := ⟨_, _, _, cl_3, by decide, by decide +kernel, by decide, Or.inl (fw_in (fw_tb (i := 316) (by decide +kernel)) rfl)⟩
theorem ft_field_3_49 : fw_F "FederationWire$Request" 49 3 15 .int false := ⟨_, _, _, cl_3, by decide, by decide +kernel, by decide, Or.inl (fw_in (fw_tb (i := 318) (by decide +kernel)) rfl)⟩
theorem ft_field_3_52 : fw_F "FederationWire$Request" 52 3 10 .int true := ⟨_, _, _, cl_3, by decide, by decide +kernel, by decide, Or.inl (fw_in (fw_tb (i := 309) (by decide +kernel)) rfl)⟩
theorem ft_nonest_3_52 : ∀ host Cn nm d, Cond.fieldLinkNest "FederationWire$Request" 52 Cn nm d host ∉ fw_NS := fw_noN "FederationWire$Request" 52 (by decide +kernel)
theorem ft_field_3_55 : fw_F "FederationWire$Request" 55 3 0 .int true := ⟨_, _, _, cl_3, by decide, by decide +kernel, by decide, Or.inl (fw_in (fw_tb (i := 295) (by decide +kernel)) rfl)⟩
theorem ft_nonest_3_55 : ∀ host Cn nm d, Cond.fieldLinkNest "FederationWire$Request" 55 Cn nm d host ∉ fw_NS := fw_noN "FederationWire$Request" 55 (by decide +kernel)
theorem ft_field_3_58 : fw_F "FederationWire$Request" 58 3 1 .boolean true := ⟨_, _, _, cl_3, by decide, by decide +kernel, by decide, Or.inl (fw_in (fw_tb (i := 297) (by decide +kernel)) rfl)⟩
theorem ft_nonest_3_58 : ∀ host Cn nm d, Cond.fieldLinkNest "FederationWire$Request" 58 Cn nm d host ∉ fw_NS := fw_noN "FederationWire$Request" 58 (by decide +kernel)
theorem ft_field_3_62 : fw_F "FederationWire$Request" 62 3 2 .int true := ⟨_, _, _, cl_3, by decide, by decide +kernel, by decide, Or.inl (fw_in (fw_tb (i := 298) (by decide +kernel)) rfl)⟩
theorem ft_nonest_3_62 : ∀ host Cn nm d, Cond.fieldLinkNest "FederationWire$Request" 62 Cn nm d host ∉ fw_NS := fw_noN "FederationWire$Request" 62 (by decide +kernel)
theorem ft_field_3_65 : fw_F "FederationWire$Request" 65 2 2 .int false := ⟨_, _, _, cl_2, by decide, by decide +kernel, by decide, Or.inr ⟨"FederationWire", fw_inN (fw_tb (i := 34) (by decide +kernel)) rfl⟩⟩
theorem ft_field_3_68 : fw_F "FederationWire$Request" 68 3 3 (.object "FederationWire$Pairs") true := ⟨_, _, _, cl_3, by decide, by decide +kernel, by decide, Or.inl (fw_in (fw_tb (i := 299) (by decide +kernel)) rfl)⟩
theorem ft_nonest_3_68 : ∀ host Cn nm d, Cond.fieldLinkNest "FederationWire$Request" 68 Cn nm d host ∉ fw_NS := fw_noN "FederationWire$Request" 68 (by decide +kernel)
theorem ft_max_3_71 : Cond.methodLink "FederationWire$Request" 71 Lib.Math.max.name ∈ fw_WS := fw_in (fw_tb (i := 281) (by decide +kernel)) rfl
theorem ft_nonest_3_77 : ∀ host Cn nm d, Cond.fieldLinkNest "FederationWire$Request" 77 Cn nm d host ∉ fw_NS := fw_noN "FederationWire$Request" 77 (by decide +kernel)
theorem ft_callV_3_81 : fw_L "FederationWire$Request" 81 y_Pairs_keyAt prog_4_method_3_code 2 (some .int) 1 := ⟨fw_in (fw_tb (i := 285) (by decide +kernel)) rfl, fw_in (fw_tb (i := 2) (by decide +kernel)) rfl, by decide, by decide +kernel, Or.inl (fw_in (fw_tb (i := 282) (by decide +kernel)) rfl)⟩
theorem ft_callV_3_85 : fw_L "FederationWire$Request" 85 y_Pairs_valueAt prog_4_method_4_code 2 (some .int) 1 := ⟨fw_in (fw_tb (i := 289) (by decide +kernel)) rfl, fw_in (fw_tb (i := 2) (by decide +kernel)) rfl, by decide, by decide +kernel, Or.inl (fw_in (fw_tb (i := 286) (by decide +kernel)) rfl)⟩
theorem ft_callV_3_88 : fw_L "FederationWire$Request" 88 y_Pairs_add prog_4_method_2_code 3 (some .boolean) 2 := ⟨fw_in (fw_tb (i := 267) (by decide +kernel)) rfl, fw_in (fw_tb (i := 2) (by decide +kernel)) rfl, by decide, by decide +kernel, Or.inl (fw_in (fw_tb (i := 290) (by decide +kernel)) rfl)⟩
theorem ft_callV_3_92 : fw_L "FederationWire$Request" 92 y_Request_addKey prog_5_method_2_code 3 none 1 := ⟨fw_in (fw_tb (i := 294) (by decide +kernel)) rfl, fw_in (fw_tb (i := 9) (by decide +kernel)) rfl, by decide, by decide +kernel, Or.inl (fw_in (fw_tb (i := 291) (by decide +kernel)) rfl)⟩
theorem ft_callV_3_104 : fw_L "FederationWire$Request" 104 y_Frame_begin prog_2_method_2_code 3 none 2 := ⟨fw_in (fw_tb (i := 372) (by decide +kernel)) rfl, fw_in (fw_tb (i := 5) (by decide +kernel)) rfl, by decide, by decide +kernel, Or.inl (fw_in (fw_tb (i := 369) (by decide +kernel)) rfl)⟩
theorem ft_callV_3_101 : fw_L "FederationWire$Request" 101 y_Frame_put prog_2_method_3_code 2 none 1 := ⟨fw_in (fw_tb (i := 376) (by decide +kernel)) rfl, fw_in (fw_tb (i := 5) (by decide +kernel)) rfl, by decide, by decide +kernel, Or.inl (fw_in (fw_tb (i := 373) (by decide +kernel)) rfl)⟩
theorem ft_callV_3_95 : fw_L "FederationWire$Request" 95 y_Request_nextStep prog_5_method_6_code 2 none 1 := ⟨fw_in (fw_tb (i := 368) (by decide +kernel)) rfl, fw_in (fw_tb (i := 9) (by decide +kernel)) rfl, by decide, by decide +kernel, Or.inl (fw_in (fw_tb (i := 365) (by decide +kernel)) rfl)⟩
theorem ft_min_3_98 : Cond.methodLink "FederationWire$Request" 98 Lib.Math.min.name ∈ fw_WS := fw_in (fw_tb (i := 377) (by decide +kernel)) rfl
theorem ft_callV_3_108 : fw_L "FederationWire$Request" 108 y_Frame_byteAt prog_2_method_4_code 2 (some .int) 1 := ⟨fw_in (fw_tb (i := 236) (by decide +kernel)) rfl, fw_in (fw_tb (i := 5) (by decide +kernel)) rfl, by decide, by decide +kernel, Or.inl (fw_in (fw_tb (i := 454) (by decide +kernel)) rfl)⟩
theorem ft_field_3_111 : fw_F "FederationWire$Request" 111 0 0 .int false := ⟨_, _, _, cl_0, by decide, by decide +kernel, by decide, Or.inr ⟨"FederationWire", fw_inN (fw_tb (i := 63) (by decide +kernel)) rfl⟩⟩
theorem ft_field_3_114 : fw_F "FederationWire$Request" 114 0 2 .int false := ⟨_, _, _, cl_0, by decide, by decide +kernel, by decide, Or.inr ⟨"FederationWire", fw_inN (fw_tb (i := 72) (by decide +kernel)) rfl⟩⟩
theorem ft_callV_3_117 : fw_L "FederationWire$Request" 117 y_Pairs_clear prog_4_method_5_code 1 none 0 := ⟨fw_in (fw_tb (i := 356) (by decide +kernel)) rfl, fw_in (fw_tb (i := 2) (by decide +kernel)) rfl, by decide, by decide +kernel, Or.inl (fw_in (fw_tb (i := 459) (by decide +kernel)) rfl)⟩
theorem ft_callV_3_120 : fw_L "FederationWire$Request" 120 y_Request_silentPart prog_5_method_12_code 3 (some .int) 2 := ⟨fw_in (fw_tb (i := 529) (by decide +kernel)) rfl, fw_in (fw_tb (i := 9) (by decide +kernel)) rfl, by decide, by decide +kernel, Or.inl (fw_in (fw_tb (i := 526) (by decide +kernel)) rfl)⟩
theorem ft_obj_4_3 : Cond.methodLink "FederationWire$ServingEnd" 3 objectInit ∈ fw_WS := fw_in (fw_tb (i := 50) (by decide +kernel)) rfl
theorem ft_new_4_9 : Cond.classLink "FederationWire$ServingEnd" 9 "FederationWire$Pairs" ∈ fw_WS := fw_in (fw_tb (i := 51) (by decide +kernel)) rfl
theorem ft_callI_4_11 : fw_L "FederationWire$ServingEnd" 11 y_Pairs_init prog_4_method_1_code 3 none 1 := ⟨fw_in (fw_tb (i := 26) (by decide +kernel)) rfl, fw_in (fw_tb (i := 2) (by decide +kernel)) rfl, by decide, by decide +kernel, Or.inl (fw_in (fw_tb (i := 52) (by decide +kernel)) rfl)⟩
theorem ft_field_4_14 : fw_F "FederationWire$ServingEnd" 14 4 0 (.object "FederationWire$Pairs") true := ⟨_, _, _, cl_4, by decide, by decide +kernel, by decide, Or.inl (fw_in (fw_tb (i := 107) (by decide +kernel)) rfl)⟩
theorem ft_nonest_4_14 : ∀ host Cn nm d, Cond.fieldLinkNest "FederationWire$ServingEnd" 14 Cn nm d host ∉ fw_NS := fw_noN "FederationWire$ServingEnd" 14 (by decide +kernel)
theorem ft_anew_4_20 : Cond.classLink "FederationWire$ServingEnd" 20 "FederationWire$Memory" ∈ fw_WS := fw_in (fw_tb (i := 53) (by decide +kernel)) rfl
theorem ft_field_4_22 : fw_F "FederationWire$ServingEnd" 22 4 1 (.array (.object "FederationWire$Memory")) true := ⟨_, _, _, cl_4, by decide, by decide +kernel, by decide, Or.inl (fw_in (fw_tb (i := 109) (by decide +kernel)) rfl)⟩
theorem ft_nonest_4_22 : ∀ host Cn nm d, Cond.fieldLinkNest "FederationWire$ServingEnd" 22 Cn nm d host ∉ fw_NS := fw_noN "FederationWire$ServingEnd" 22 (by decide +kernel)
theorem ft_field_4_26 : fw_F "FederationWire$ServingEnd" 26 4 2 .int false := ⟨_, _, _, cl_4, by decide, by decide +kernel, by decide, Or.inl (fw_in (fw_tb (i := 110) (by decide +kernel)) rfl)⟩
theorem ft_field_4_30 : fw_F "FederationWire$ServingEnd" 30 4 3 .int false := ⟨_, _, _, cl_4, by decide, by decide +kernel, by decide, Or.inl (fw_in (fw_tb (i := 112) (by decide +kernel)) rfl)⟩
theorem ft_new_4_33 : Cond.classLink "FederationWire$ServingEnd" 33 "FederationWire$Frame" ∈ fw_WS := fw_in (fw_tb (i := 55) (by decide +kernel)) rfl
theorem ft_callI_4_35 : fw_L "FederationWire$ServingEnd" 35 y_Frame_init prog_2_method_1_code 1 none 0 := ⟨fw_in (fw_tb (i := 59) (by decide +kernel)) rfl, fw_in (fw_tb (i := 5) (by decide +kernel)) rfl, by decide, by decide +kernel, Or.inr ⟨"FederationWire", fw_inN (fw_tb (i := 57) (by decide +kernel)) rfl⟩⟩
theorem ft_field_4_36 : fw_F "FederationWire$ServingEnd" 36 4 4 (.object "FederationWire$Frame") true := ⟨_, _, _, cl_4, by decide, by decide +kernel, by decide, Or.inl (fw_in (fw_tb (i := 114) (by decide +kernel)) rfl)⟩
theorem ft_nonest_4_36 : ∀ host Cn nm d, Cond.fieldLinkNest "FederationWire$ServingEnd" 36 Cn nm d host ∉ fw_NS := fw_noN "FederationWire$ServingEnd" 36 (by decide +kernel)
theorem ft_new_4_20 : Cond.classLink "FederationWire$ServingEnd" 20 "FederationWire$Memory" ∈ fw_WS := fw_in (fw_tb (i := 53) (by decide +kernel)) rfl
theorem ft_callI_4_40 : fw_L "FederationWire$ServingEnd" 40 y_Memory_init prog_3_method_1_code 1 none 0 := ⟨fw_in (fw_tb (i := 86) (by decide +kernel)) rfl, fw_in (fw_tb (i := 6) (by decide +kernel)) rfl, by decide, by decide +kernel, Or.inr ⟨"FederationWire", fw_inN (fw_tb (i := 84) (by decide +kernel)) rfl⟩⟩
theorem ft_callV_4_48 : fw_L "FederationWire$ServingEnd" 48 y_ServingEnd_memoryAt prog_6_method_4_code 2 (some (.object "FederationWire$Memory")) 1 := ⟨fw_in (fw_tb (i := 421) (by decide +kernel)) rfl, fw_in (fw_tb (i := 4) (by decide +kernel)) rfl, by decide, by decide +kernel, Or.inl (fw_in (fw_tb (i := 418) (by decide +kernel)) rfl)⟩
theorem ft_field_4_85 : fw_F "FederationWire$ServingEnd" 85 1 0 .int false := ⟨_, _, _, cl_1, by decide, by decide +kernel, by decide, Or.inr ⟨"FederationWire", fw_inN (fw_tb (i := 91) (by decide +kernel)) rfl⟩⟩
theorem ft_callV_4_44 : fw_L "FederationWire$ServingEnd" 44 y_ServingEnd_placeOf prog_6_method_5_code 4 (some .int) 1 := ⟨fw_in (fw_tb (i := 417) (by decide +kernel)) rfl, fw_in (fw_tb (i := 4) (by decide +kernel)) rfl, by decide, by decide +kernel, Or.inl (fw_in (fw_tb (i := 414) (by decide +kernel)) rfl)⟩
theorem ft_field_4_41 : fw_F "FederationWire$ServingEnd" 41 0 1 .int false := ⟨_, _, _, cl_0, by decide, by decide +kernel, by decide, Or.inr ⟨"FederationWire", fw_inN (fw_tb (i := 66) (by decide +kernel)) rfl⟩⟩
theorem ft_callV_4_55 : fw_L "FederationWire$ServingEnd" 55 y_Frame_byteAt prog_2_method_4_code 2 (some .int) 1 := ⟨fw_in (fw_tb (i := 236) (by decide +kernel)) rfl, fw_in (fw_tb (i := 5) (by decide +kernel)) rfl, by decide, by decide +kernel, Or.inl (fw_in (fw_tb (i := 422) (by decide +kernel)) rfl)⟩
theorem ft_field_4_52 : fw_F "FederationWire$ServingEnd" 52 1 1 .int false := ⟨_, _, _, cl_1, by decide, by decide +kernel, by decide, Or.inr ⟨"FederationWire", fw_inN (fw_tb (i := 93) (by decide +kernel)) rfl⟩⟩
theorem ft_field_4_75 : fw_F "FederationWire$ServingEnd" 75 1 2 .int false := ⟨_, _, _, cl_1, by decide, by decide +kernel, by decide, Or.inr ⟨"FederationWire", fw_inN (fw_tb (i := 95) (by decide +kernel)) rfl⟩⟩
theorem ft_field_4_69 : fw_F "FederationWire$ServingEnd" 69 1 3 (.object "FederationWire$Pairs") true := ⟨_, _, _, cl_1, by decide, by decide +kernel, by decide, Or.inr ⟨"FederationWire", fw_inN (fw_tb (i := 97) (by decide +kernel)) rfl⟩⟩
theorem ft_callV_4_86 : fw_L "FederationWire$ServingEnd" 86 y_Pairs_clear prog_4_method_5_code 1 none 0 := ⟨fw_in (fw_tb (i := 356) (by decide +kernel)) rfl, fw_in (fw_tb (i := 2) (by decide +kernel)) rfl, by decide, by decide +kernel, Or.inl (fw_in (fw_tb (i := 431) (by decide +kernel)) rfl)⟩
theorem ft_field_4_89 : fw_F "FederationWire$ServingEnd" 89 0 2 .int false := ⟨_, _, _, cl_0, by decide, by decide +kernel, by decide, Or.inr ⟨"FederationWire", fw_inN (fw_tb (i := 71) (by decide +kernel)) rfl⟩⟩
theorem ft_field_4_72 : fw_F "FederationWire$ServingEnd" 72 2 2 .int false := ⟨_, _, _, cl_2, by decide, by decide +kernel, by decide, Or.inr ⟨"FederationWire", fw_inN (fw_tb (i := 35) (by decide +kernel)) rfl⟩⟩
theorem ft_callV_4_92 : fw_L "FederationWire$ServingEnd" 92 y_Pairs_keyAt prog_4_method_3_code 2 (some .int) 1 := ⟨fw_in (fw_tb (i := 285) (by decide +kernel)) rfl, fw_in (fw_tb (i := 2) (by decide +kernel)) rfl, by decide, by decide +kernel, Or.inl (fw_in (fw_tb (i := 432) (by decide +kernel)) rfl)⟩
theorem ft_callV_4_95 : fw_L "FederationWire$ServingEnd" 95 y_Pairs_valueAt prog_4_method_4_code 2 (some .int) 1 := ⟨fw_in (fw_tb (i := 289) (by decide +kernel)) rfl, fw_in (fw_tb (i := 2) (by decide +kernel)) rfl, by decide, by decide +kernel, Or.inl (fw_in (fw_tb (i := 433) (by decide +kernel)) rfl)⟩
theorem ft_callV_4_98 : fw_L "FederationWire$ServingEnd" 98 y_Pairs_add prog_4_method_2_code 3 (some .boolean) 2 := ⟨fw_in (fw_tb (i := 267) (by decide +kernel)) rfl, fw_in (fw_tb (i := 2) (by decide +kernel)) rfl, by decide, by decide +kernel, Or.inl (fw_in (fw_tb (i := 434) (by decide +kernel)) rfl)⟩
theorem ft_min_4_102 : Cond.methodLink "FederationWire$ServingEnd" 102 Lib.Math.min.name ∈ fw_WS := fw_in (fw_tb (i := 439) (by decide +kernel)) rfl
theorem ft_callV_4_78 : fw_L "FederationWire$ServingEnd" 78 y_Frame_begin prog_2_method_2_code 3 none 2 := ⟨fw_in (fw_tb (i := 372) (by decide +kernel)) rfl, fw_in (fw_tb (i := 5) (by decide +kernel)) rfl, by decide, by decide +kernel, Or.inl (fw_in (fw_tb (i := 440) (by decide +kernel)) rfl)⟩
theorem ft_callV_4_82 : fw_L "FederationWire$ServingEnd" 82 y_Frame_put prog_2_method_3_code 2 none 1 := ⟨fw_in (fw_tb (i := 376) (by decide +kernel)) rfl, fw_in (fw_tb (i := 5) (by decide +kernel)) rfl, by decide, by decide +kernel, Or.inl (fw_in (fw_tb (i := 441) (by decide +kernel)) rfl)⟩
theorem ft_callV_4_58 : fw_L "FederationWire$ServingEnd" 58 y_ServingEnd_memoryFor prog_6_method_6_code 5 (some (.object "FederationWire$Memory")) 1 := ⟨fw_in (fw_tb (i := 426) (by decide +kernel)) rfl, fw_in (fw_tb (i := 4) (by decide +kernel)) rfl, by decide, by decide +kernel, Or.inl (fw_in (fw_tb (i := 423) (by decide +kernel)) rfl)⟩
theorem ft_callV_4_61 : fw_L "FederationWire$ServingEnd" 61 y_ServingEnd_remember prog_6_method_7_code 5 none 2 := ⟨fw_in (fw_tb (i := 430) (by decide +kernel)) rfl, fw_in (fw_tb (i := 4) (by decide +kernel)) rfl, by decide, by decide +kernel, Or.inl (fw_in (fw_tb (i := 427) (by decide +kernel)) rfl)⟩
theorem ft_callV_4_65 : fw_L "FederationWire$ServingEnd" 65 y_ServingEnd_writeRows prog_6_method_8_code 6 none 3 := ⟨fw_in (fw_tb (i := 438) (by decide +kernel)) rfl, fw_in (fw_tb (i := 4) (by decide +kernel)) rfl, by decide, by decide +kernel, Or.inl (fw_in (fw_tb (i := 435) (by decide +kernel)) rfl)⟩
theorem ft_obj_5_3 : Cond.methodLink "FederationWire$Wire" 3 objectInit ∈ fw_WS := fw_in (fw_tb (i := 131) (by decide +kernel)) rfl
theorem ft_field_5_9 : fw_F "FederationWire$Wire" 9 5 1 (.array .int) true := ⟨_, _, _, cl_5, by decide, by decide +kernel, by decide, Or.inl (fw_in (fw_tb (i := 136) (by decide +kernel)) rfl)⟩
theorem ft_nonest_5_9 : ∀ host Cn nm d, Cond.fieldLinkNest "FederationWire$Wire" 9 Cn nm d host ∉ fw_NS := fw_noN "FederationWire$Wire" 9 (by decide +kernel)
theorem ft_field_5_15 : fw_F "FederationWire$Wire" 15 5 2 .int false := ⟨_, _, _, cl_5, by decide, by decide +kernel, by decide, Or.inl (fw_in (fw_tb (i := 137) (by decide +kernel)) rfl)⟩
theorem ft_field_5_19 : fw_F "FederationWire$Wire" 19 5 3 .int false := ⟨_, _, _, cl_5, by decide, by decide +kernel, by decide, Or.inl (fw_in (fw_tb (i := 138) (by decide +kernel)) rfl)⟩
theorem ft_new_5_22 : Cond.classLink "FederationWire$Wire" 22 "FederationWire$Frame" ∈ fw_WS := fw_in (fw_tb (i := 132) (by decide +kernel)) rfl
theorem ft_callI_5_24 : fw_L "FederationWire$Wire" 24 y_Frame_init prog_2_method_1_code 1 none 0 := ⟨fw_in (fw_tb (i := 59) (by decide +kernel)) rfl, fw_in (fw_tb (i := 5) (by decide +kernel)) rfl, by decide, by decide +kernel, Or.inr ⟨"FederationWire", fw_inN (fw_tb (i := 133) (by decide +kernel)) rfl⟩⟩
theorem ft_field_5_25 : fw_F "FederationWire$Wire" 25 5 4 (.object "FederationWire$Frame") true := ⟨_, _, _, cl_5, by decide, by decide +kernel, by decide, Or.inl (fw_in (fw_tb (i := 140) (by decide +kernel)) rfl)⟩
theorem ft_nonest_5_25 : ∀ host Cn nm d, Cond.fieldLinkNest "FederationWire$Wire" 25 Cn nm d host ∉ fw_NS := fw_noN "FederationWire$Wire" 25 (by decide +kernel)
theorem ft_field_5_29 : fw_F "FederationWire$Wire" 29 5 5 .int false := ⟨_, _, _, cl_5, by decide, by decide +kernel, by decide, Or.inl (fw_in (fw_tb (i := 142) (by decide +kernel)) rfl)⟩
theorem ft_field_5_32 : fw_F "FederationWire$Wire" 32 5 6 .int false := ⟨_, _, _, cl_5, by decide, by decide +kernel, by decide, Or.inl (fw_in (fw_tb (i := 144) (by decide +kernel)) rfl)⟩
theorem ft_field_5_35 : fw_F "FederationWire$Wire" 35 5 0 .boolean false := ⟨_, _, _, cl_5, by decide, by decide +kernel, by decide, Or.inl (fw_in (fw_tb (i := 134) (by decide +kernel)) rfl)⟩
theorem ft_callV_5_39 : fw_L "FederationWire$Wire" 39 y_Wire_clearOut prog_7_method_3_code 1 none 0 := ⟨fw_in (fw_tb (i := 252) (by decide +kernel)) rfl, fw_in (fw_tb (i := 7) (by decide +kernel)) rfl, by decide, by decide +kernel, Or.inl (fw_in (fw_tb (i := 249) (by decide +kernel)) rfl)⟩
theorem ft_field_5_42 : fw_F "FederationWire$Wire" 42 0 2 .int false := ⟨_, _, _, cl_0, by decide, by decide +kernel, by decide, Or.inr ⟨"FederationWire", fw_inN (fw_tb (i := 70) (by decide +kernel)) rfl⟩⟩
theorem ft_callV_5_45 : fw_L "FederationWire$Wire" 45 y_Wire_push prog_7_method_5_code 3 none 1 := ⟨fw_in (fw_tb (i := 232) (by decide +kernel)) rfl, fw_in (fw_tb (i := 7) (by decide +kernel)) rfl, by decide, by decide +kernel, Or.inl (fw_in (fw_tb (i := 229) (by decide +kernel)) rfl)⟩
theorem ft_field_5_49 : fw_F "FederationWire$Wire" 49 0 0 .int false := ⟨_, _, _, cl_0, by decide, by decide +kernel, by decide, Or.inr ⟨"FederationWire", fw_inN (fw_tb (i := 62) (by decide +kernel)) rfl⟩⟩
theorem ft_field_5_52 : fw_F "FederationWire$Wire" 52 0 1 .int false := ⟨_, _, _, cl_0, by decide, by decide +kernel, by decide, Or.inr ⟨"FederationWire", fw_inN (fw_tb (i := 67) (by decide +kernel)) rfl⟩⟩
theorem ft_callV_5_59 : fw_L "FederationWire$Wire" 59 y_Frame_sum prog_2_method_5_code 3 (some .int) 0 := ⟨fw_in (fw_tb (i := 240) (by decide +kernel)) rfl, fw_in (fw_tb (i := 5) (by decide +kernel)) rfl, by decide, by decide +kernel, Or.inl (fw_in (fw_tb (i := 237) (by decide +kernel)) rfl)⟩
theorem ft_callV_5_55 : fw_L "FederationWire$Wire" 55 y_Frame_byteAt prog_2_method_4_code 2 (some .int) 1 := ⟨fw_in (fw_tb (i := 236) (by decide +kernel)) rfl, fw_in (fw_tb (i := 5) (by decide +kernel)) rfl, by decide, by decide +kernel, Or.inl (fw_in (fw_tb (i := 233) (by decide +kernel)) rfl)⟩
theorem ft_callV_5_70 : fw_L "FederationWire$Wire" 70 y_Wire_lengthSuits prog_7_method_9_code 2 (some .boolean) 1 := ⟨fw_in (fw_tb (i := 399) (by decide +kernel)) rfl, fw_in (fw_tb (i := 7) (by decide +kernel)) rfl, by decide, by decide +kernel, Or.inl (fw_in (fw_tb (i := 396) (by decide +kernel)) rfl)⟩
theorem ft_callV_5_73 : fw_L "FederationWire$Wire" 73 y_Frame_begin prog_2_method_2_code 3 none 2 := ⟨fw_in (fw_tb (i := 372) (by decide +kernel)) rfl, fw_in (fw_tb (i := 5) (by decide +kernel)) rfl, by decide, by decide +kernel, Or.inl (fw_in (fw_tb (i := 404) (by decide +kernel)) rfl)⟩
theorem ft_callV_5_77 : fw_L "FederationWire$Wire" 77 y_Frame_put prog_2_method_3_code 2 none 1 := ⟨fw_in (fw_tb (i := 376) (by decide +kernel)) rfl, fw_in (fw_tb (i := 5) (by decide +kernel)) rfl, by decide, by decide +kernel, Or.inl (fw_in (fw_tb (i := 405) (by decide +kernel)) rfl)⟩
theorem ft_callV_5_63 : fw_L "FederationWire$Wire" 63 y_Wire_suits prog_7_method_8_code 2 (some .boolean) 1 := ⟨fw_in (fw_tb (i := 395) (by decide +kernel)) rfl, fw_in (fw_tb (i := 7) (by decide +kernel)) rfl, by decide, by decide +kernel, Or.inl (fw_in (fw_tb (i := 392) (by decide +kernel)) rfl)⟩
theorem ft_callV_5_67 : fw_L "FederationWire$Wire" 67 y_Wire_keep prog_7_method_10_code 2 none 1 := ⟨fw_in (fw_tb (i := 403) (by decide +kernel)) rfl, fw_in (fw_tb (i := 7) (by decide +kernel)) rfl, by decide, by decide +kernel, Or.inl (fw_in (fw_tb (i := 400) (by decide +kernel)) rfl)⟩
theorem ft_obj_6_1 : Cond.methodLink "FederationWire" 1 objectInit ∈ fw_WS := fw_in (fw_tb (i := 15) (by decide +kernel)) rfl
theorem ft_anew_6_9 : Cond.classLink "FederationWire" 9 "FederationWire$Wire" ∈ fw_WS := fw_in (fw_tb (i := 18) (by decide +kernel)) rfl
theorem ft_field_6_11 : fw_F "FederationWire" 11 6 0 (.array (.object "FederationWire$Wire")) true := ⟨_, _, _, cl_6, by decide, by decide +kernel, by decide, Or.inl (fw_in (fw_tb (i := 161) (by decide +kernel)) rfl)⟩
theorem ft_nonest_6_11 : ∀ host Cn nm d, Cond.fieldLinkNest "FederationWire" 11 Cn nm d host ∉ fw_NS := fw_noN "FederationWire" 11 (by decide +kernel)
theorem ft_anew_6_15 : Cond.classLink "FederationWire" 15 "FederationWire$Request" ∈ fw_WS := fw_in (fw_tb (i := 20) (by decide +kernel)) rfl
theorem ft_field_6_17 : fw_F "FederationWire" 17 6 1 (.array (.object "FederationWire$Request")) true := ⟨_, _, _, cl_6, by decide, by decide +kernel, by decide, Or.inl (fw_in (fw_tb (i := 162) (by decide +kernel)) rfl)⟩
theorem ft_nonest_6_17 : ∀ host Cn nm d, Cond.fieldLinkNest "FederationWire" 17 Cn nm d host ∉ fw_NS := fw_noN "FederationWire" 17 (by decide +kernel)
theorem ft_field_6_21 : fw_F "FederationWire" 21 6 2 .int false := ⟨_, _, _, cl_6, by decide, by decide +kernel, by decide, Or.inl (fw_in (fw_tb (i := 163) (by decide +kernel)) rfl)⟩
theorem ft_new_6_25 : Cond.classLink "FederationWire" 25 "FederationWire$Pairs" ∈ fw_WS := fw_in (fw_tb (i := 22) (by decide +kernel)) rfl
theorem ft_callI_6_27 : fw_L "FederationWire" 27 y_Pairs_init prog_4_method_1_code 3 none 1 := ⟨fw_in (fw_tb (i := 26) (by decide +kernel)) rfl, fw_in (fw_tb (i := 2) (by decide +kernel)) rfl, by decide, by decide +kernel, Or.inl (fw_in (fw_tb (i := 24) (by decide +kernel)) rfl)⟩
theorem ft_field_6_30 : fw_F "FederationWire" 30 6 3 (.object "FederationWire$Pairs") true := ⟨_, _, _, cl_6, by decide, by decide +kernel, by decide, Or.inl (fw_in (fw_tb (i := 164) (by decide +kernel)) rfl)⟩
theorem ft_nonest_6_30 : ∀ host Cn nm d, Cond.fieldLinkNest "FederationWire" 30 Cn nm d host ∉ fw_NS := fw_noN "FederationWire" 30 (by decide +kernel)
theorem ft_new_6_34 : Cond.classLink "FederationWire" 34 "FederationWire$ServingEnd" ∈ fw_WS := fw_in (fw_tb (i := 45) (by decide +kernel)) rfl
theorem ft_callI_6_36 : fw_L "FederationWire" 36 y_ServingEnd_init prog_6_method_1_code 2 none 0 := ⟨fw_in (fw_tb (i := 49) (by decide +kernel)) rfl, fw_in (fw_tb (i := 4) (by decide +kernel)) rfl, by decide, by decide +kernel, Or.inl (fw_in (fw_tb (i := 47) (by decide +kernel)) rfl)⟩
theorem ft_field_6_37 : fw_F "FederationWire" 37 6 4 (.object "FederationWire$ServingEnd") true := ⟨_, _, _, cl_6, by decide, by decide +kernel, by decide, Or.inl (fw_in (fw_tb (i := 165) (by decide +kernel)) rfl)⟩
theorem ft_nonest_6_37 : ∀ host Cn nm d, Cond.fieldLinkNest "FederationWire" 37 Cn nm d host ∉ fw_NS := fw_noN "FederationWire" 37 (by decide +kernel)
theorem ft_field_6_41 : fw_F "FederationWire" 41 6 5 (.array .int) true := ⟨_, _, _, cl_6, by decide, by decide +kernel, by decide, Or.inl (fw_in (fw_tb (i := 166) (by decide +kernel)) rfl)⟩
theorem ft_nonest_6_41 : ∀ host Cn nm d, Cond.fieldLinkNest "FederationWire" 41 Cn nm d host ∉ fw_NS := fw_noN "FederationWire" 41 (by decide +kernel)
theorem ft_field_6_45 : fw_F "FederationWire" 45 6 6 (.array .boolean) true := ⟨_, _, _, cl_6, by decide, by decide +kernel, by decide, Or.inl (fw_in (fw_tb (i := 167) (by decide +kernel)) rfl)⟩
theorem ft_nonest_6_45 : ∀ host Cn nm d, Cond.fieldLinkNest "FederationWire" 45 Cn nm d host ∉ fw_NS := fw_noN "FederationWire" 45 (by decide +kernel)
theorem ft_field_6_49 : fw_F "FederationWire" 49 6 7 .int false := ⟨_, _, _, cl_6, by decide, by decide +kernel, by decide, Or.inl (fw_in (fw_tb (i := 168) (by decide +kernel)) rfl)⟩
theorem ft_field_6_52 : fw_F "FederationWire" 52 6 8 .int false := ⟨_, _, _, cl_6, by decide, by decide +kernel, by decide, Or.inl (fw_in (fw_tb (i := 169) (by decide +kernel)) rfl)⟩
theorem ft_field_6_55 : fw_F "FederationWire" 55 6 9 .int false := ⟨_, _, _, cl_6, by decide, by decide +kernel, by decide, Or.inl (fw_in (fw_tb (i := 170) (by decide +kernel)) rfl)⟩
theorem ft_field_6_58 : fw_F "FederationWire" 58 6 10 .int false := ⟨_, _, _, cl_6, by decide, by decide +kernel, by decide, Or.inl (fw_in (fw_tb (i := 171) (by decide +kernel)) rfl)⟩
theorem ft_field_6_61 : fw_F "FederationWire" 61 6 11 .int false := ⟨_, _, _, cl_6, by decide, by decide +kernel, by decide, Or.inl (fw_in (fw_tb (i := 172) (by decide +kernel)) rfl)⟩
theorem ft_field_6_64 : fw_F "FederationWire" 64 6 12 .int false := ⟨_, _, _, cl_6, by decide, by decide +kernel, by decide, Or.inl (fw_in (fw_tb (i := 173) (by decide +kernel)) rfl)⟩
theorem ft_new_6_9 : Cond.classLink "FederationWire" 9 "FederationWire$Wire" ∈ fw_WS := fw_in (fw_tb (i := 18) (by decide +kernel)) rfl
theorem ft_callI_6_67 : fw_L "FederationWire" 67 y_Wire_init prog_7_method_1_code 2 none 1 := ⟨fw_in (fw_tb (i := 130) (by decide +kernel)) rfl, fw_in (fw_tb (i := 7) (by decide +kernel)) rfl, by decide, by decide +kernel, Or.inl (fw_in (fw_tb (i := 128) (by decide +kernel)) rfl)⟩
theorem ft_callV_6_119 : fw_L "FederationWire" 119 y_FW_wireAt prog_1_method_19_code 2 (some (.object "FederationWire$Wire")) 1 := ⟨fw_in (fw_tb (i := 212) (by decide +kernel)) rfl, fw_in (fw_tb (i := 1) (by decide +kernel)) rfl, by decide, by decide +kernel, Or.inl (fw_in (fw_tb (i := 209) (by decide +kernel)) rfl)⟩
theorem ft_callV_6_187 : fw_L "FederationWire" 187 y_Wire_send prog_7_method_4_code 3 (some .boolean) 1 := ⟨fw_in (fw_tb (i := 228) (by decide +kernel)) rfl, fw_in (fw_tb (i := 7) (by decide +kernel)) rfl, by decide, by decide +kernel, Or.inl (fw_in (fw_tb (i := 225) (by decide +kernel)) rfl)⟩
theorem ft_field_6_191 : fw_F "FederationWire" 191 3 12 .int false := ⟨_, _, _, cl_3, by decide, by decide +kernel, by decide, Or.inr ⟨"FederationWire", fw_inN (fw_tb (i := 313) (by decide +kernel)) rfl⟩⟩
theorem ft_field_6_160 : fw_F "FederationWire" 160 3 13 .int false := ⟨_, _, _, cl_3, by decide, by decide +kernel, by decide, Or.inr ⟨"FederationWire", fw_inN (fw_tb (i := 315) (by decide +kernel)) rfl⟩⟩
theorem ft_field_6_194 : fw_F "FederationWire" 194 3 9 (.object "FederationWire$Frame") true := ⟨_, _, _, cl_3, by decide, by decide +kernel, by decide, Or.inr ⟨"FederationWire", fw_inN (fw_tb (i := 308) (by decide +kernel)) rfl⟩⟩
theorem ft_callV_6_198 : fw_L "FederationWire" 198 y_FW_send prog_1_method_22_code 4 (some .boolean) 2 := ⟨fw_in (fw_tb (i := 224) (by decide +kernel)) rfl, fw_in (fw_tb (i := 1) (by decide +kernel)) rfl, by decide, by decide +kernel, Or.inl (fw_in (fw_tb (i := 221) (by decide +kernel)) rfl)⟩
theorem ft_callV_6_70 : fw_L "FederationWire" 70 y_FW_houseWire prog_1_method_20_code 2 (some (.object "FederationWire$Wire")) 1 := ⟨fw_in (fw_tb (i := 208) (by decide +kernel)) rfl, fw_in (fw_tb (i := 1) (by decide +kernel)) rfl, by decide, by decide +kernel, Or.inl (fw_in (fw_tb (i := 205) (by decide +kernel)) rfl)⟩
theorem ft_field_6_74 : fw_F "FederationWire" 74 5 0 .boolean false := ⟨_, _, _, cl_5, by decide, by decide +kernel, by decide, Or.inr ⟨"FederationWire", fw_inN (fw_tb (i := 135) (by decide +kernel)) rfl⟩⟩
theorem ft_callV_6_78 : fw_L "FederationWire" 78 y_FW_requestAt prog_1_method_21_code 2 (some (.object "FederationWire$Request")) 1 := ⟨fw_in (fw_tb (i := 216) (by decide +kernel)) rfl, fw_in (fw_tb (i := 1) (by decide +kernel)) rfl, by decide, by decide +kernel, Or.inl (fw_in (fw_tb (i := 213) (by decide +kernel)) rfl)⟩
theorem ft_field_6_82 : fw_F "FederationWire" 82 3 0 .int true := ⟨_, _, _, cl_3, by decide, by decide +kernel, by decide, Or.inr ⟨"FederationWire", fw_inN (fw_tb (i := 296) (by decide +kernel)) rfl⟩⟩
theorem ft_field_6_85 : fw_F "FederationWire" 85 3 14 .int false := ⟨_, _, _, cl_3, by decide, by decide +kernel, by decide, Or.inr ⟨"FederationWire", fw_inN (fw_tb (i := 317) (by decide +kernel)) rfl⟩⟩
theorem ft_callV_6_88 : fw_L "FederationWire" 88 y_FW_sendFirst prog_1_method_23_code 3 (some .boolean) 2 := ⟨fw_in (fw_tb (i := 220) (by decide +kernel)) rfl, fw_in (fw_tb (i := 1) (by decide +kernel)) rfl, by decide, by decide +kernel, Or.inl (fw_in (fw_tb (i := 217) (by decide +kernel)) rfl)⟩
theorem ft_callV_6_92 : fw_L "FederationWire" 92 y_Wire_end prog_7_method_2_code 1 none 0 := ⟨fw_in (fw_tb (i := 248) (by decide +kernel)) rfl, fw_in (fw_tb (i := 7) (by decide +kernel)) rfl, by decide, by decide +kernel, Or.inl (fw_in (fw_tb (i := 245) (by decide +kernel)) rfl)⟩
theorem ft_callS_6_95 : fw_L "FederationWire" 95 y_FW_isByte prog_1_method_18_code 1 (some .boolean) 1 := ⟨fw_in (fw_tb (i := 263) (by decide +kernel)) rfl, fw_in (fw_tb (i := 1) (by decide +kernel)) rfl, by decide, by decide +kernel, Or.inl (fw_in (fw_tb (i := 261) (by decide +kernel)) rfl)⟩
theorem ft_callV_6_99 : fw_L "FederationWire" 99 y_Pairs_add prog_4_method_2_code 3 (some .boolean) 2 := ⟨fw_in (fw_tb (i := 267) (by decide +kernel)) rfl, fw_in (fw_tb (i := 2) (by decide +kernel)) rfl, by decide, by decide +kernel, Or.inl (fw_in (fw_tb (i := 264) (by decide +kernel)) rfl)⟩
theorem ft_field_6_103 : fw_F "FederationWire" 103 2 2 .int false := ⟨_, _, _, cl_2, by decide, by decide +kernel, by decide, Or.inr ⟨"FederationWire", fw_inN (fw_tb (i := 36) (by decide +kernel)) rfl⟩⟩
theorem ft_new_6_15 : Cond.classLink "FederationWire" 15 "FederationWire$Request" ∈ fw_WS := fw_in (fw_tb (i := 20) (by decide +kernel)) rfl
theorem ft_callI_6_106 : fw_L "FederationWire" 106 y_Request_init prog_5_method_1_code 7 none 5 := ⟨fw_in (fw_tb (i := 275) (by decide +kernel)) rfl, fw_in (fw_tb (i := 9) (by decide +kernel)) rfl, by decide, by decide +kernel, Or.inl (fw_in (fw_tb (i := 273) (by decide +kernel)) rfl)⟩
theorem ft_callV_6_109 : fw_L "FederationWire" 109 y_Pairs_clear prog_4_method_5_code 1 none 0 := ⟨fw_in (fw_tb (i := 356) (by decide +kernel)) rfl, fw_in (fw_tb (i := 2) (by decide +kernel)) rfl, by decide, by decide +kernel, Or.inl (fw_in (fw_tb (i := 353) (by decide +kernel)) rfl)⟩
theorem ft_callV_6_112 : fw_L "FederationWire" 112 y_Request_hasKeysLeft prog_5_method_3_code 1 (some .boolean) 0 := ⟨fw_in (fw_tb (i := 360) (by decide +kernel)) rfl, fw_in (fw_tb (i := 9) (by decide +kernel)) rfl, by decide, by decide +kernel, Or.inl (fw_in (fw_tb (i := 357) (by decide +kernel)) rfl)⟩
theorem ft_callV_6_116 : fw_L "FederationWire" 116 y_Request_writeAsk prog_5_method_4_code 3 none 0 := ⟨fw_in (fw_tb (i := 364) (by decide +kernel)) rfl, fw_in (fw_tb (i := 9) (by decide +kernel)) rfl, by decide, by decide +kernel, Or.inl (fw_in (fw_tb (i := 361) (by decide +kernel)) rfl)⟩
theorem ft_field_6_214 : fw_F "FederationWire" 214 0 0 .int false := ⟨_, _, _, cl_0, by decide, by decide +kernel, by decide, Or.inr ⟨"FederationWire", fw_inN (fw_tb (i := 64) (by decide +kernel)) rfl⟩⟩
theorem ft_callV_6_223 : fw_L "FederationWire" 223 y_ServingEnd_answerMore prog_6_method_3_code 5 none 1 := ⟨fw_in (fw_tb (i := 445) (by decide +kernel)) rfl, fw_in (fw_tb (i := 4) (by decide +kernel)) rfl, by decide, by decide +kernel, Or.inl (fw_in (fw_tb (i := 442) (by decide +kernel)) rfl)⟩
theorem ft_field_6_226 : fw_F "FederationWire" 226 4 4 (.object "FederationWire$Frame") true := ⟨_, _, _, cl_4, by decide, by decide +kernel, by decide, Or.inr ⟨"FederationWire", fw_inN (fw_tb (i := 115) (by decide +kernel)) rfl⟩⟩
theorem ft_callV_6_219 : fw_L "FederationWire" 219 y_ServingEnd_answerAsk prog_6_method_2_code 3 none 1 := ⟨fw_in (fw_tb (i := 413) (by decide +kernel)) rfl, fw_in (fw_tb (i := 4) (by decide +kernel)) rfl, by decide, by decide +kernel, Or.inl (fw_in (fw_tb (i := 410) (by decide +kernel)) rfl)⟩
theorem ft_field_6_163 : fw_F "FederationWire" 163 3 5 .int false := ⟨_, _, _, cl_3, by decide, by decide +kernel, by decide, Or.inr ⟨"FederationWire", fw_inN (fw_tb (i := 302) (by decide +kernel)) rfl⟩⟩
theorem ft_field_6_151 : fw_F "FederationWire" 151 3 7 (.object "FederationWire$Pairs") true := ⟨_, _, _, cl_3, by decide, by decide +kernel, by decide, Or.inr ⟨"FederationWire", fw_inN (fw_tb (i := 305) (by decide +kernel)) rfl⟩⟩
theorem ft_field_6_229 : fw_F "FederationWire" 229 0 1 .int false := ⟨_, _, _, cl_0, by decide, by decide +kernel, by decide, Or.inr ⟨"FederationWire", fw_inN (fw_tb (i := 68) (by decide +kernel)) rfl⟩⟩
theorem ft_callV_6_232 : fw_L "FederationWire" 232 y_Request_waitsFor prog_5_method_7_code 3 (some .boolean) 2 := ⟨fw_in (fw_tb (i := 453) (by decide +kernel)) rfl, fw_in (fw_tb (i := 9) (by decide +kernel)) rfl, by decide, by decide +kernel, Or.inl (fw_in (fw_tb (i := 450) (by decide +kernel)) rfl)⟩
theorem ft_callV_6_239 : fw_L "FederationWire" 239 y_Request_takeRows prog_5_method_8_code 3 none 1 := ⟨fw_in (fw_tb (i := 463) (by decide +kernel)) rfl, fw_in (fw_tb (i := 9) (by decide +kernel)) rfl, by decide, by decide +kernel, Or.inl (fw_in (fw_tb (i := 460) (by decide +kernel)) rfl)⟩
theorem ft_callV_6_242 : fw_L "FederationWire" 242 y_Frame_byteAt prog_2_method_4_code 2 (some .int) 1 := ⟨fw_in (fw_tb (i := 236) (by decide +kernel)) rfl, fw_in (fw_tb (i := 5) (by decide +kernel)) rfl, by decide, by decide +kernel, Or.inl (fw_in (fw_tb (i := 464) (by decide +kernel)) rfl)⟩
theorem ft_callV_6_248 : fw_L "FederationWire" 248 y_FW_learn prog_1_method_27_code 4 none 1 := ⟨fw_in (fw_tb (i := 472) (by decide +kernel)) rfl, fw_in (fw_tb (i := 1) (by decide +kernel)) rfl, by decide, by decide +kernel, Or.inl (fw_in (fw_tb (i := 469) (by decide +kernel)) rfl)⟩
theorem ft_callV_6_245 : fw_L "FederationWire" 245 y_Request_writeMore prog_5_method_5_code 1 none 0 := ⟨fw_in (fw_tb (i := 468) (by decide +kernel)) rfl, fw_in (fw_tb (i := 9) (by decide +kernel)) rfl, by decide, by decide +kernel, Or.inl (fw_in (fw_tb (i := 465) (by decide +kernel)) rfl)⟩
theorem ft_callV_6_236 : fw_L "FederationWire" 236 y_Request_fail prog_5_method_9_code 2 none 1 := ⟨fw_in (fw_tb (i := 458) (by decide +kernel)) rfl, fw_in (fw_tb (i := 9) (by decide +kernel)) rfl, by decide, by decide +kernel, Or.inl (fw_in (fw_tb (i := 455) (by decide +kernel)) rfl)⟩
theorem ft_callV_6_201 : fw_L "FederationWire" 201 y_Wire_accept prog_7_method_7_code 2 (some .int) 1 := ⟨fw_in (fw_tb (i := 391) (by decide +kernel)) rfl, fw_in (fw_tb (i := 7) (by decide +kernel)) rfl, by decide, by decide +kernel, Or.inl (fw_in (fw_tb (i := 388) (by decide +kernel)) rfl)⟩
theorem ft_field_6_204 : fw_F "FederationWire" 204 5 4 (.object "FederationWire$Frame") true := ⟨_, _, _, cl_5, by decide, by decide +kernel, by decide, Or.inr ⟨"FederationWire", fw_inN (fw_tb (i := 141) (by decide +kernel)) rfl⟩⟩
theorem ft_callV_6_210 : fw_L "FederationWire" 210 y_FW_hear prog_1_method_26_code 5 (some .boolean) 3 := ⟨fw_in (fw_tb (i := 449) (by decide +kernel)) rfl, fw_in (fw_tb (i := 1) (by decide +kernel)) rfl, by decide, by decide +kernel, Or.inl (fw_in (fw_tb (i := 446) (by decide +kernel)) rfl)⟩
theorem ft_callV_6_207 : fw_L "FederationWire" 207 y_FW_serve prog_1_method_25_code 3 (some .boolean) 2 := ⟨fw_in (fw_tb (i := 409) (by decide +kernel)) rfl, fw_in (fw_tb (i := 1) (by decide +kernel)) rfl, by decide, by decide +kernel, Or.inl (fw_in (fw_tb (i := 406) (by decide +kernel)) rfl)⟩
theorem ft_field_6_184 : fw_F "FederationWire" 184 5 5 .int false := ⟨_, _, _, cl_5, by decide, by decide +kernel, by decide, Or.inr ⟨"FederationWire", fw_inN (fw_tb (i := 143) (by decide +kernel)) rfl⟩⟩
theorem ft_callV_6_122 : fw_L "FederationWire" 122 y_FW_take prog_1_method_24_code 7 (some .int) 3 := ⟨fw_in (fw_tb (i := 387) (by decide +kernel)) rfl, fw_in (fw_tb (i := 1) (by decide +kernel)) rfl, by decide, by decide +kernel, Or.inl (fw_in (fw_tb (i := 384) (by decide +kernel)) rfl)⟩
theorem ft_callV_6_126 : fw_L "FederationWire" 126 y_Wire_takeFirst prog_7_method_6_code 2 (some .int) 0 := ⟨fw_in (fw_tb (i := 480) (by decide +kernel)) rfl, fw_in (fw_tb (i := 7) (by decide +kernel)) rfl, by decide, by decide +kernel, Or.inl (fw_in (fw_tb (i := 477) (by decide +kernel)) rfl)⟩
theorem ft_field_6_130 : fw_F "FederationWire" 130 5 3 .int false := ⟨_, _, _, cl_5, by decide, by decide +kernel, by decide, Or.inr ⟨"FederationWire", fw_inN (fw_tb (i := 139) (by decide +kernel)) rfl⟩⟩
theorem ft_min_6_133 : Cond.methodLink "FederationWire" 133 Lib.Math.min.name ∈ fw_WS := fw_in (fw_tb (i := 485) (by decide +kernel)) rfl
theorem ft_callV_6_139 : fw_L "FederationWire" 139 y_Wire_clearOut prog_7_method_3_code 1 none 0 := ⟨fw_in (fw_tb (i := 252) (by decide +kernel)) rfl, fw_in (fw_tb (i := 7) (by decide +kernel)) rfl, by decide, by decide +kernel, Or.inl (fw_in (fw_tb (i := 486) (by decide +kernel)) rfl)⟩
theorem ft_ldc_6_254 : Cond.constant "FederationWire" 254 2147483647 ∈ fw_WS := fw_in (fw_tb (i := 495) (by decide +kernel)) rfl
theorem ft_callV_6_255 : fw_L "FederationWire" 255 y_FW_repeat prog_1_method_30_code 3 none 1 := ⟨fw_in (fw_tb (i := 503) (by decide +kernel)) rfl, fw_in (fw_tb (i := 1) (by decide +kernel)) rfl, by decide, by decide +kernel, Or.inl (fw_in (fw_tb (i := 500) (by decide +kernel)) rfl)⟩
theorem ft_callV_6_142 : fw_L "FederationWire" 142 y_FW_earliestDue prog_1_method_28_code 4 (some .int) 0 := ⟨fw_in (fw_tb (i := 494) (by decide +kernel)) rfl, fw_in (fw_tb (i := 1) (by decide +kernel)) rfl, by decide, by decide +kernel, Or.inl (fw_in (fw_tb (i := 491) (by decide +kernel)) rfl)⟩
theorem ft_callV_6_145 : fw_L "FederationWire" 145 y_FW_settleDue prog_1_method_29_code 4 (some .int) 0 := ⟨fw_in (fw_tb (i := 499) (by decide +kernel)) rfl, fw_in (fw_tb (i := 1) (by decide +kernel)) rfl, by decide, by decide +kernel, Or.inl (fw_in (fw_tb (i := 496) (by decide +kernel)) rfl)⟩
theorem ft_field_6_148 : fw_F "FederationWire" 148 3 15 .int false := ⟨_, _, _, cl_3, by decide, by decide +kernel, by decide, Or.inr ⟨"FederationWire", fw_inN (fw_tb (i := 319) (by decide +kernel)) rfl⟩⟩
theorem ft_callV_6_154 : fw_L "FederationWire" 154 y_Request_joinedSize prog_5_method_10_code 4 (some .int) 0 := ⟨fw_in (fw_tb (i := 511) (by decide +kernel)) rfl, fw_in (fw_tb (i := 9) (by decide +kernel)) rfl, by decide, by decide +kernel, Or.inl (fw_in (fw_tb (i := 508) (by decide +kernel)) rfl)⟩
theorem ft_field_6_157 : fw_F "FederationWire" 157 3 11 .int false := ⟨_, _, _, cl_3, by decide, by decide +kernel, by decide, Or.inr ⟨"FederationWire", fw_inN (fw_tb (i := 311) (by decide +kernel)) rfl⟩⟩
theorem ft_callV_6_170 : fw_L "FederationWire" 170 y_Pairs_valueAt prog_4_method_4_code 2 (some .int) 1 := ⟨fw_in (fw_tb (i := 289) (by decide +kernel)) rfl, fw_in (fw_tb (i := 2) (by decide +kernel)) rfl, by decide, by decide +kernel, Or.inl (fw_in (fw_tb (i := 517) (by decide +kernel)) rfl)⟩
theorem ft_callV_6_166 : fw_L "FederationWire" 166 y_Pairs_keyAt prog_4_method_3_code 2 (some .int) 1 := ⟨fw_in (fw_tb (i := 285) (by decide +kernel)) rfl, fw_in (fw_tb (i := 2) (by decide +kernel)) rfl, by decide, by decide +kernel, Or.inl (fw_in (fw_tb (i := 516) (by decide +kernel)) rfl)⟩
theorem ft_callV_6_173 : fw_L "FederationWire" 173 y_Request_joinedPart prog_5_method_11_code 6 (some .int) 2 := ⟨fw_in (fw_tb (i := 525) (by decide +kernel)) rfl, fw_in (fw_tb (i := 9) (by decide +kernel)) rfl, by decide, by decide +kernel, Or.inl (fw_in (fw_tb (i := 522) (by decide +kernel)) rfl)⟩
theorem ft_field_6_177 : fw_F "FederationWire" 177 4 0 (.object "FederationWire$Pairs") true := ⟨_, _, _, cl_4, by decide, by decide +kernel, by decide, Or.inr ⟨"FederationWire", fw_inN (fw_tb (i := 108) (by decide +kernel)) rfl⟩⟩
theorem ft_field_6_180 : fw_F "FederationWire" 180 4 3 .int false := ⟨_, _, _, cl_4, by decide, by decide +kernel, by decide, Or.inr ⟨"FederationWire", fw_inN (fw_tb (i := 113) (by decide +kernel)) rfl⟩⟩
theorem ft_field_6_181 : fw_F "FederationWire" 181 4 2 .int false := ⟨_, _, _, cl_4, by decide, by decide +kernel, by decide, Or.inr ⟨"FederationWire", fw_inN (fw_tb (i := 111) (by decide +kernel)) rfl⟩⟩
theorem ft_obj_7_1 : Cond.methodLink "FederationWireModel" 1 objectInit ∈ fw_WS := fw_in (fw_tb (i := 551) (by decide +kernel)) rfl
theorem ft_field_7_7 : fw_F "FederationWireModel" 7 7 0 (.array .boolean) true := ⟨_, _, _, cl_7, by decide, by decide +kernel, by decide, Or.inl (fw_in (fw_tb (i := 552) (by decide +kernel)) rfl)⟩
theorem ft_nonest_7_7 : ∀ host Cn nm d, Cond.fieldLinkNest "FederationWireModel" 7 Cn nm d host ∉ fw_NS := fw_noN "FederationWireModel" 7 (by decide +kernel)
theorem ft_field_7_13 : fw_F "FederationWireModel" 13 7 1 (.array .int) true := ⟨_, _, _, cl_7, by decide, by decide +kernel, by decide, Or.inl (fw_in (fw_tb (i := 553) (by decide +kernel)) rfl)⟩
theorem ft_nonest_7_13 : ∀ host Cn nm d, Cond.fieldLinkNest "FederationWireModel" 13 Cn nm d host ∉ fw_NS := fw_noN "FederationWireModel" 13 (by decide +kernel)
theorem ft_field_7_17 : fw_F "FederationWireModel" 17 7 2 (.array .int) true := ⟨_, _, _, cl_7, by decide, by decide +kernel, by decide, Or.inl (fw_in (fw_tb (i := 554) (by decide +kernel)) rfl)⟩
theorem ft_nonest_7_17 : ∀ host Cn nm d, Cond.fieldLinkNest "FederationWireModel" 17 Cn nm d host ∉ fw_NS := fw_noN "FederationWireModel" 17 (by decide +kernel)
theorem ft_field_7_20 : fw_F "FederationWireModel" 20 7 3 (.array .int) true := ⟨_, _, _, cl_7, by decide, by decide +kernel, by decide, Or.inl (fw_in (fw_tb (i := 555) (by decide +kernel)) rfl)⟩
theorem ft_nonest_7_20 : ∀ host Cn nm d, Cond.fieldLinkNest "FederationWireModel" 20 Cn nm d host ∉ fw_NS := fw_noN "FederationWireModel" 20 (by decide +kernel)
theorem ft_field_7_23 : fw_F "FederationWireModel" 23 7 4 (.array .int) true := ⟨_, _, _, cl_7, by decide, by decide +kernel, by decide, Or.inl (fw_in (fw_tb (i := 556) (by decide +kernel)) rfl)⟩
theorem ft_nonest_7_23 : ∀ host Cn nm d, Cond.fieldLinkNest "FederationWireModel" 23 Cn nm d host ∉ fw_NS := fw_noN "FederationWireModel" 23 (by decide +kernel)
theorem ft_field_7_26 : fw_F "FederationWireModel" 26 7 5 .int false := ⟨_, _, _, cl_7, by decide, by decide +kernel, by decide, Or.inl (fw_in (fw_tb (i := 557) (by decide +kernel)) rfl)⟩
theorem ft_field_7_30 : fw_F "FederationWireModel" 30 7 6 .int false := ⟨_, _, _, cl_7, by decide, by decide +kernel, by decide, Or.inl (fw_in (fw_tb (i := 558) (by decide +kernel)) rfl)⟩
theorem ft_field_7_33 : fw_F "FederationWireModel" 33 7 7 .int false := ⟨_, _, _, cl_7, by decide, by decide +kernel, by decide, Or.inl (fw_in (fw_tb (i := 559) (by decide +kernel)) rfl)⟩
theorem ft_field_7_36 : fw_F "FederationWireModel" 36 7 12 (.array .int) true := ⟨_, _, _, cl_7, by decide, by decide +kernel, by decide, Or.inl (fw_in (fw_tb (i := 564) (by decide +kernel)) rfl)⟩
theorem ft_nonest_7_36 : ∀ host Cn nm d, Cond.fieldLinkNest "FederationWireModel" 36 Cn nm d host ∉ fw_NS := fw_noN "FederationWireModel" 36 (by decide +kernel)
theorem ft_field_7_39 : fw_F "FederationWireModel" 39 7 13 (.array .int) true := ⟨_, _, _, cl_7, by decide, by decide +kernel, by decide, Or.inl (fw_in (fw_tb (i := 565) (by decide +kernel)) rfl)⟩
theorem ft_nonest_7_39 : ∀ host Cn nm d, Cond.fieldLinkNest "FederationWireModel" 39 Cn nm d host ∉ fw_NS := fw_noN "FederationWireModel" 39 (by decide +kernel)
theorem ft_field_7_42 : fw_F "FederationWireModel" 42 7 15 (.array .int) true := ⟨_, _, _, cl_7, by decide, by decide +kernel, by decide, Or.inl (fw_in (fw_tb (i := 567) (by decide +kernel)) rfl)⟩
theorem ft_nonest_7_42 : ∀ host Cn nm d, Cond.fieldLinkNest "FederationWireModel" 42 Cn nm d host ∉ fw_NS := fw_noN "FederationWireModel" 42 (by decide +kernel)
theorem ft_field_7_45 : fw_F "FederationWireModel" 45 7 16 (.array .boolean) true := ⟨_, _, _, cl_7, by decide, by decide +kernel, by decide, Or.inl (fw_in (fw_tb (i := 568) (by decide +kernel)) rfl)⟩
theorem ft_nonest_7_45 : ∀ host Cn nm d, Cond.fieldLinkNest "FederationWireModel" 45 Cn nm d host ∉ fw_NS := fw_noN "FederationWireModel" 45 (by decide +kernel)
theorem ft_field_7_48 : fw_F "FederationWireModel" 48 7 17 (.array .int) true := ⟨_, _, _, cl_7, by decide, by decide +kernel, by decide, Or.inl (fw_in (fw_tb (i := 569) (by decide +kernel)) rfl)⟩
theorem ft_nonest_7_48 : ∀ host Cn nm d, Cond.fieldLinkNest "FederationWireModel" 48 Cn nm d host ∉ fw_NS := fw_noN "FederationWireModel" 48 (by decide +kernel)
theorem ft_field_7_51 : fw_F "FederationWireModel" 51 7 18 (.array .int) true := ⟨_, _, _, cl_7, by decide, by decide +kernel, by decide, Or.inl (fw_in (fw_tb (i := 570) (by decide +kernel)) rfl)⟩
theorem ft_nonest_7_51 : ∀ host Cn nm d, Cond.fieldLinkNest "FederationWireModel" 51 Cn nm d host ∉ fw_NS := fw_noN "FederationWireModel" 51 (by decide +kernel)
theorem ft_field_7_54 : fw_F "FederationWireModel" 54 7 19 (.array .int) true := ⟨_, _, _, cl_7, by decide, by decide +kernel, by decide, Or.inl (fw_in (fw_tb (i := 571) (by decide +kernel)) rfl)⟩
theorem ft_nonest_7_54 : ∀ host Cn nm d, Cond.fieldLinkNest "FederationWireModel" 54 Cn nm d host ∉ fw_NS := fw_noN "FederationWireModel" 54 (by decide +kernel)
theorem ft_field_7_57 : fw_F "FederationWireModel" 57 7 20 (.array .int) true := ⟨_, _, _, cl_7, by decide, by decide +kernel, by decide, Or.inl (fw_in (fw_tb (i := 572) (by decide +kernel)) rfl)⟩
theorem ft_nonest_7_57 : ∀ host Cn nm d, Cond.fieldLinkNest "FederationWireModel" 57 Cn nm d host ∉ fw_NS := fw_noN "FederationWireModel" 57 (by decide +kernel)
theorem ft_field_7_60 : fw_F "FederationWireModel" 60 7 21 (.array .int) true := ⟨_, _, _, cl_7, by decide, by decide +kernel, by decide, Or.inl (fw_in (fw_tb (i := 573) (by decide +kernel)) rfl)⟩
theorem ft_nonest_7_60 : ∀ host Cn nm d, Cond.fieldLinkNest "FederationWireModel" 60 Cn nm d host ∉ fw_NS := fw_noN "FederationWireModel" 60 (by decide +kernel)
theorem ft_field_7_63 : fw_F "FederationWireModel" 63 7 22 (.array .int) true := ⟨_, _, _, cl_7, by decide, by decide +kernel, by decide, Or.inl (fw_in (fw_tb (i := 574) (by decide +kernel)) rfl)⟩
theorem ft_nonest_7_63 : ∀ host Cn nm d, Cond.fieldLinkNest "FederationWireModel" 63 Cn nm d host ∉ fw_NS := fw_noN "FederationWireModel" 63 (by decide +kernel)
theorem ft_field_7_66 : fw_F "FederationWireModel" 66 7 23 (.array .int) true := ⟨_, _, _, cl_7, by decide, by decide +kernel, by decide, Or.inl (fw_in (fw_tb (i := 575) (by decide +kernel)) rfl)⟩
theorem ft_nonest_7_66 : ∀ host Cn nm d, Cond.fieldLinkNest "FederationWireModel" 66 Cn nm d host ∉ fw_NS := fw_noN "FederationWireModel" 66 (by decide +kernel)
theorem ft_field_7_69 : fw_F "FederationWireModel" 69 7 24 (.array .int) true := ⟨_, _, _, cl_7, by decide, by decide +kernel, by decide, Or.inl (fw_in (fw_tb (i := 576) (by decide +kernel)) rfl)⟩
theorem ft_nonest_7_69 : ∀ host Cn nm d, Cond.fieldLinkNest "FederationWireModel" 69 Cn nm d host ∉ fw_NS := fw_noN "FederationWireModel" 69 (by decide +kernel)
theorem ft_field_7_72 : fw_F "FederationWireModel" 72 7 25 (.array .int) true := ⟨_, _, _, cl_7, by decide, by decide +kernel, by decide, Or.inl (fw_in (fw_tb (i := 577) (by decide +kernel)) rfl)⟩
theorem ft_nonest_7_72 : ∀ host Cn nm d, Cond.fieldLinkNest "FederationWireModel" 72 Cn nm d host ∉ fw_NS := fw_noN "FederationWireModel" 72 (by decide +kernel)
theorem ft_field_7_75 : fw_F "FederationWireModel" 75 7 26 (.array .int) true := ⟨_, _, _, cl_7, by decide, by decide +kernel, by decide, Or.inl (fw_in (fw_tb (i := 578) (by decide +kernel)) rfl)⟩
theorem ft_nonest_7_75 : ∀ host Cn nm d, Cond.fieldLinkNest "FederationWireModel" 75 Cn nm d host ∉ fw_NS := fw_noN "FederationWireModel" 75 (by decide +kernel)
theorem ft_field_7_78 : fw_F "FederationWireModel" 78 7 27 (.array .int) true := ⟨_, _, _, cl_7, by decide, by decide +kernel, by decide, Or.inl (fw_in (fw_tb (i := 579) (by decide +kernel)) rfl)⟩
theorem ft_nonest_7_78 : ∀ host Cn nm d, Cond.fieldLinkNest "FederationWireModel" 78 Cn nm d host ∉ fw_NS := fw_noN "FederationWireModel" 78 (by decide +kernel)
theorem ft_field_7_81 : fw_F "FederationWireModel" 81 7 28 (.array .int) true := ⟨_, _, _, cl_7, by decide, by decide +kernel, by decide, Or.inl (fw_in (fw_tb (i := 580) (by decide +kernel)) rfl)⟩
theorem ft_nonest_7_81 : ∀ host Cn nm d, Cond.fieldLinkNest "FederationWireModel" 81 Cn nm d host ∉ fw_NS := fw_noN "FederationWireModel" 81 (by decide +kernel)
theorem ft_field_7_84 : fw_F "FederationWireModel" 84 7 29 (.array .int) true := ⟨_, _, _, cl_7, by decide, by decide +kernel, by decide, Or.inl (fw_in (fw_tb (i := 581) (by decide +kernel)) rfl)⟩
theorem ft_nonest_7_84 : ∀ host Cn nm d, Cond.fieldLinkNest "FederationWireModel" 84 Cn nm d host ∉ fw_NS := fw_noN "FederationWireModel" 84 (by decide +kernel)
theorem ft_field_7_87 : fw_F "FederationWireModel" 87 7 30 (.array .int) true := ⟨_, _, _, cl_7, by decide, by decide +kernel, by decide, Or.inl (fw_in (fw_tb (i := 582) (by decide +kernel)) rfl)⟩
theorem ft_nonest_7_87 : ∀ host Cn nm d, Cond.fieldLinkNest "FederationWireModel" 87 Cn nm d host ∉ fw_NS := fw_noN "FederationWireModel" 87 (by decide +kernel)
theorem ft_field_7_90 : fw_F "FederationWireModel" 90 7 31 (.array .int) true := ⟨_, _, _, cl_7, by decide, by decide +kernel, by decide, Or.inl (fw_in (fw_tb (i := 583) (by decide +kernel)) rfl)⟩
theorem ft_nonest_7_90 : ∀ host Cn nm d, Cond.fieldLinkNest "FederationWireModel" 90 Cn nm d host ∉ fw_NS := fw_noN "FederationWireModel" 90 (by decide +kernel)
theorem ft_field_7_93 : fw_F "FederationWireModel" 93 7 32 (.array .int) true := ⟨_, _, _, cl_7, by decide, by decide +kernel, by decide, Or.inl (fw_in (fw_tb (i := 584) (by decide +kernel)) rfl)⟩
theorem ft_nonest_7_93 : ∀ host Cn nm d, Cond.fieldLinkNest "FederationWireModel" 93 Cn nm d host ∉ fw_NS := fw_noN "FederationWireModel" 93 (by decide +kernel)
theorem ft_field_7_96 : fw_F "FederationWireModel" 96 7 33 (.array .int) true := ⟨_, _, _, cl_7, by decide, by decide +kernel, by decide, Or.inl (fw_in (fw_tb (i := 585) (by decide +kernel)) rfl)⟩
theorem ft_nonest_7_96 : ∀ host Cn nm d, Cond.fieldLinkNest "FederationWireModel" 96 Cn nm d host ∉ fw_NS := fw_noN "FederationWireModel" 96 (by decide +kernel)
theorem ft_field_7_99 : fw_F "FederationWireModel" 99 7 34 (.array .int) true := ⟨_, _, _, cl_7, by decide, by decide +kernel, by decide, Or.inl (fw_in (fw_tb (i := 586) (by decide +kernel)) rfl)⟩
theorem ft_nonest_7_99 : ∀ host Cn nm d, Cond.fieldLinkNest "FederationWireModel" 99 Cn nm d host ∉ fw_NS := fw_noN "FederationWireModel" 99 (by decide +kernel)
theorem ft_field_7_102 : fw_F "FederationWireModel" 102 7 35 (.array .int) true := ⟨_, _, _, cl_7, by decide, by decide +kernel, by decide, Or.inl (fw_in (fw_tb (i := 587) (by decide +kernel)) rfl)⟩
theorem ft_nonest_7_102 : ∀ host Cn nm d, Cond.fieldLinkNest "FederationWireModel" 102 Cn nm d host ∉ fw_NS := fw_noN "FederationWireModel" 102 (by decide +kernel)
theorem ft_field_7_105 : fw_F "FederationWireModel" 105 7 36 (.array .int) true := ⟨_, _, _, cl_7, by decide, by decide +kernel, by decide, Or.inl (fw_in (fw_tb (i := 588) (by decide +kernel)) rfl)⟩
theorem ft_nonest_7_105 : ∀ host Cn nm d, Cond.fieldLinkNest "FederationWireModel" 105 Cn nm d host ∉ fw_NS := fw_noN "FederationWireModel" 105 (by decide +kernel)
theorem ft_field_7_108 : fw_F "FederationWireModel" 108 7 37 (.array .boolean) true := ⟨_, _, _, cl_7, by decide, by decide +kernel, by decide, Or.inl (fw_in (fw_tb (i := 589) (by decide +kernel)) rfl)⟩
theorem ft_nonest_7_108 : ∀ host Cn nm d, Cond.fieldLinkNest "FederationWireModel" 108 Cn nm d host ∉ fw_NS := fw_noN "FederationWireModel" 108 (by decide +kernel)
theorem ft_field_7_111 : fw_F "FederationWireModel" 111 7 39 (.array .int) true := ⟨_, _, _, cl_7, by decide, by decide +kernel, by decide, Or.inl (fw_in (fw_tb (i := 591) (by decide +kernel)) rfl)⟩
theorem ft_nonest_7_111 : ∀ host Cn nm d, Cond.fieldLinkNest "FederationWireModel" 111 Cn nm d host ∉ fw_NS := fw_noN "FederationWireModel" 111 (by decide +kernel)
theorem ft_field_7_114 : fw_F "FederationWireModel" 114 7 40 (.array .int) true := ⟨_, _, _, cl_7, by decide, by decide +kernel, by decide, Or.inl (fw_in (fw_tb (i := 592) (by decide +kernel)) rfl)⟩
theorem ft_nonest_7_114 : ∀ host Cn nm d, Cond.fieldLinkNest "FederationWireModel" 114 Cn nm d host ∉ fw_NS := fw_noN "FederationWireModel" 114 (by decide +kernel)
theorem ft_field_7_117 : fw_F "FederationWireModel" 117 7 43 (.array .int) true := ⟨_, _, _, cl_7, by decide, by decide +kernel, by decide, Or.inl (fw_in (fw_tb (i := 595) (by decide +kernel)) rfl)⟩
theorem ft_nonest_7_117 : ∀ host Cn nm d, Cond.fieldLinkNest "FederationWireModel" 117 Cn nm d host ∉ fw_NS := fw_noN "FederationWireModel" 117 (by decide +kernel)
theorem ft_field_7_120 : fw_F "FederationWireModel" 120 7 44 (.array .int) true := ⟨_, _, _, cl_7, by decide, by decide +kernel, by decide, Or.inl (fw_in (fw_tb (i := 596) (by decide +kernel)) rfl)⟩
theorem ft_nonest_7_120 : ∀ host Cn nm d, Cond.fieldLinkNest "FederationWireModel" 120 Cn nm d host ∉ fw_NS := fw_noN "FederationWireModel" 120 (by decide +kernel)
theorem ft_field_7_123 : fw_F "FederationWireModel" 123 7 45 (.array .int) true := ⟨_, _, _, cl_7, by decide, by decide +kernel, by decide, Or.inl (fw_in (fw_tb (i := 597) (by decide +kernel)) rfl)⟩
theorem ft_nonest_7_123 : ∀ host Cn nm d, Cond.fieldLinkNest "FederationWireModel" 123 Cn nm d host ∉ fw_NS := fw_noN "FederationWireModel" 123 (by decide +kernel)
theorem ft_field_7_126 : fw_F "FederationWireModel" 126 7 46 (.array .int) true := ⟨_, _, _, cl_7, by decide, by decide +kernel, by decide, Or.inl (fw_in (fw_tb (i := 598) (by decide +kernel)) rfl)⟩
theorem ft_nonest_7_126 : ∀ host Cn nm d, Cond.fieldLinkNest "FederationWireModel" 126 Cn nm d host ∉ fw_NS := fw_noN "FederationWireModel" 126 (by decide +kernel)
theorem ft_field_7_129 : fw_F "FederationWireModel" 129 7 47 (.array .int) true := ⟨_, _, _, cl_7, by decide, by decide +kernel, by decide, Or.inl (fw_in (fw_tb (i := 599) (by decide +kernel)) rfl)⟩
theorem ft_nonest_7_129 : ∀ host Cn nm d, Cond.fieldLinkNest "FederationWireModel" 129 Cn nm d host ∉ fw_NS := fw_noN "FederationWireModel" 129 (by decide +kernel)
theorem ft_field_7_132 : fw_F "FederationWireModel" 132 7 48 (.array .int) true := ⟨_, _, _, cl_7, by decide, by decide +kernel, by decide, Or.inl (fw_in (fw_tb (i := 600) (by decide +kernel)) rfl)⟩
theorem ft_nonest_7_132 : ∀ host Cn nm d, Cond.fieldLinkNest "FederationWireModel" 132 Cn nm d host ∉ fw_NS := fw_noN "FederationWireModel" 132 (by decide +kernel)
theorem ft_field_7_135 : fw_F "FederationWireModel" 135 7 50 (.array .int) true := ⟨_, _, _, cl_7, by decide, by decide +kernel, by decide, Or.inl (fw_in (fw_tb (i := 602) (by decide +kernel)) rfl)⟩
theorem ft_nonest_7_135 : ∀ host Cn nm d, Cond.fieldLinkNest "FederationWireModel" 135 Cn nm d host ∉ fw_NS := fw_noN "FederationWireModel" 135 (by decide +kernel)
theorem ft_field_7_141 : fw_F "FederationWireModel" 141 7 10 .int false := ⟨_, _, _, cl_7, by decide, by decide +kernel, by decide, Or.inl (fw_in (fw_tb (i := 562) (by decide +kernel)) rfl)⟩
theorem ft_field_7_138 : fw_F "FederationWireModel" 138 7 49 .int false := ⟨_, _, _, cl_7, by decide, by decide +kernel, by decide, Or.inl (fw_in (fw_tb (i := 601) (by decide +kernel)) rfl)⟩
theorem ft_field_7_148 : fw_F "FederationWireModel" 148 7 8 .int false := ⟨_, _, _, cl_7, by decide, by decide +kernel, by decide, Or.inl (fw_in (fw_tb (i := 560) (by decide +kernel)) rfl)⟩
theorem ft_callV_7_151 : fw_L "FederationWireModel" 151 y_Mo_send prog_9_method_3_code 7 (some .boolean) 3 := ⟨fw_in (fw_tb (i := 744) (by decide +kernel)) rfl, fw_in (fw_tb (i := 8) (by decide +kernel)) rfl, by decide, by decide +kernel, Or.inl (fw_in (fw_tb (i := 741) (by decide +kernel)) rfl)⟩
theorem ft_callV_7_144 : fw_L "FederationWireModel" 144 y_Mo_put prog_9_method_4_code 2 none 1 := ⟨fw_in (fw_tb (i := 732) (by decide +kernel)) rfl, fw_in (fw_tb (i := 8) (by decide +kernel)) rfl, by decide, by decide +kernel, Or.inl (fw_in (fw_tb (i := 729) (by decide +kernel)) rfl)⟩
theorem ft_callV_7_155 : fw_L "FederationWireModel" 155 y_Mo_sendLast prog_9_method_5_code 3 (some .boolean) 1 := ⟨fw_in (fw_tb (i := 740) (by decide +kernel)) rfl, fw_in (fw_tb (i := 8) (by decide +kernel)) rfl, by decide, by decide +kernel, Or.inl (fw_in (fw_tb (i := 737) (by decide +kernel)) rfl)⟩
theorem ft_callV_7_159 : fw_L "FederationWireModel" 159 y_Mo_keep prog_9_method_6_code 4 none 2 := ⟨fw_in (fw_tb (i := 736) (by decide +kernel)) rfl, fw_in (fw_tb (i := 8) (by decide +kernel)) rfl, by decide, by decide +kernel, Or.inl (fw_in (fw_tb (i := 733) (by decide +kernel)) rfl)⟩
theorem ft_callS_7_163 : fw_L "FederationWireModel" 163 y_Mo_isIn prog_9_method_2_code 3 (some .boolean) 3 := ⟨fw_in (fw_tb (i := 712) (by decide +kernel)) rfl, fw_in (fw_tb (i := 8) (by decide +kernel)) rfl, by decide, by decide +kernel, Or.inl (fw_in (fw_tb (i := 710) (by decide +kernel)) rfl)⟩
theorem ft_field_7_166 : fw_F "FederationWireModel" 166 7 11 .int false := ⟨_, _, _, cl_7, by decide, by decide +kernel, by decide, Or.inl (fw_in (fw_tb (i := 563) (by decide +kernel)) rfl)⟩
theorem ft_field_7_169 : fw_F "FederationWireModel" 169 7 14 .int false := ⟨_, _, _, cl_7, by decide, by decide +kernel, by decide, Or.inl (fw_in (fw_tb (i := 566) (by decide +kernel)) rfl)⟩
theorem ft_callV_7_175 : fw_L "FederationWireModel" 175 y_Mo_askPart prog_9_method_7_code 3 none 1 := ⟨fw_in (fw_tb (i := 728) (by decide +kernel)) rfl, fw_in (fw_tb (i := 8) (by decide +kernel)) rfl, by decide, by decide +kernel, Or.inl (fw_in (fw_tb (i := 725) (by decide +kernel)) rfl)⟩
theorem ft_callV_7_172 : fw_L "FederationWireModel" 172 y_Mo_addKey prog_9_method_13_code 4 none 2 := ⟨fw_in (fw_tb (i := 724) (by decide +kernel)) rfl, fw_in (fw_tb (i := 8) (by decide +kernel)) rfl, by decide, by decide +kernel, Or.inl (fw_in (fw_tb (i := 721) (by decide +kernel)) rfl)⟩
theorem ft_callV_7_181 : fw_L "FederationWireModel" 181 y_Mo_finish prog_9_method_8_code 4 none 1 := ⟨fw_in (fw_tb (i := 803) (by decide +kernel)) rfl, fw_in (fw_tb (i := 8) (by decide +kernel)) rfl, by decide, by decide +kernel, Or.inl (fw_in (fw_tb (i := 800) (by decide +kernel)) rfl)⟩
theorem ft_callV_7_178 : fw_L "FederationWireModel" 178 y_Mo_fail prog_9_method_9_code 3 none 2 := ⟨fw_in (fw_tb (i := 799) (by decide +kernel)) rfl, fw_in (fw_tb (i := 8) (by decide +kernel)) rfl, by decide, by decide +kernel, Or.inl (fw_in (fw_tb (i := 796) (by decide +kernel)) rfl)⟩
theorem ft_field_7_184 : fw_F "FederationWireModel" 184 7 38 .int false := ⟨_, _, _, cl_7, by decide, by decide +kernel, by decide, Or.inl (fw_in (fw_tb (i := 590) (by decide +kernel)) rfl)⟩
theorem ft_field_7_187 : fw_F "FederationWireModel" 187 7 41 .int false := ⟨_, _, _, cl_7, by decide, by decide +kernel, by decide, Or.inl (fw_in (fw_tb (i := 593) (by decide +kernel)) rfl)⟩
theorem ft_callV_7_190 : fw_L "FederationWireModel" 190 y_Mo_copy prog_9_method_18_code 4 none 2 := ⟨fw_in (fw_tb (i := 787) (by decide +kernel)) rfl, fw_in (fw_tb (i := 8) (by decide +kernel)) rfl, by decide, by decide +kernel, Or.inl (fw_in (fw_tb (i := 784) (by decide +kernel)) rfl)⟩
theorem ft_callV_7_193 : fw_L "FederationWireModel" 193 y_Mo_placeOf prog_9_method_17_code 4 (some .int) 1 := ⟨fw_in (fw_tb (i := 775) (by decide +kernel)) rfl, fw_in (fw_tb (i := 8) (by decide +kernel)) rfl, by decide, by decide +kernel, Or.inl (fw_in (fw_tb (i := 772) (by decide +kernel)) rfl)⟩
theorem ft_callV_7_197 : fw_L "FederationWireModel" 197 y_Mo_forget prog_9_method_19_code 3 none 1 := ⟨fw_in (fw_tb (i := 783) (by decide +kernel)) rfl, fw_in (fw_tb (i := 8) (by decide +kernel)) rfl, by decide, by decide +kernel, Or.inl (fw_in (fw_tb (i := 780) (by decide +kernel)) rfl)⟩
theorem ft_callV_7_206 : fw_L "FederationWireModel" 206 y_Mo_answer prog_9_method_20_code 7 none 4 := ⟨fw_in (fw_tb (i := 791) (by decide +kernel)) rfl, fw_in (fw_tb (i := 8) (by decide +kernel)) rfl, by decide, by decide +kernel, Or.inl (fw_in (fw_tb (i := 788) (by decide +kernel)) rfl)⟩
theorem ft_callV_7_203 : fw_L "FederationWireModel" 203 y_Mo_remember prog_9_method_21_code 7 none 2 := ⟨fw_in (fw_tb (i := 779) (by decide +kernel)) rfl, fw_in (fw_tb (i := 8) (by decide +kernel)) rfl, by decide, by decide +kernel, Or.inl (fw_in (fw_tb (i := 776) (by decide +kernel)) rfl)⟩
theorem ft_field_7_200 : fw_F "FederationWireModel" 200 7 42 .int false := ⟨_, _, _, cl_7, by decide, by decide +kernel, by decide, Or.inl (fw_in (fw_tb (i := 594) (by decide +kernel)) rfl)⟩
theorem ft_callS_7_210 : fw_L "FederationWireModel" 210 y_Mo_isLength prog_9_method_24_code 2 (some .boolean) 2 := ⟨fw_in (fw_tb (i := 763) (by decide +kernel)) rfl, fw_in (fw_tb (i := 8) (by decide +kernel)) rfl, by decide, by decide +kernel, Or.inl (fw_in (fw_tb (i := 761) (by decide +kernel)) rfl)⟩
theorem ft_callV_7_214 : fw_L "FederationWireModel" 214 y_Mo_fits prog_9_method_25_code 6 (some .boolean) 3 := ⟨fw_in (fw_tb (i := 760) (by decide +kernel)) rfl, fw_in (fw_tb (i := 8) (by decide +kernel)) rfl, by decide, by decide +kernel, Or.inl (fw_in (fw_tb (i := 757) (by decide +kernel)) rfl)⟩
theorem ft_callV_7_223 : fw_L "FederationWireModel" 223 y_Mo_isDropped prog_9_method_15_code 7 (some .boolean) 4 := ⟨fw_in (fw_tb (i := 795) (by decide +kernel)) rfl, fw_in (fw_tb (i := 8) (by decide +kernel)) rfl, by decide, by decide +kernel, Or.inl (fw_in (fw_tb (i := 792) (by decide +kernel)) rfl)⟩
theorem ft_field_7_227 : fw_F "FederationWireModel" 227 7 9 .int false := ⟨_, _, _, cl_7, by decide, by decide +kernel, by decide, Or.inl (fw_in (fw_tb (i := 561) (by decide +kernel)) rfl)⟩
theorem ft_callV_7_220 : fw_L "FederationWireModel" 220 y_Mo_isServed prog_9_method_22_code 7 (some .boolean) 3 := ⟨fw_in (fw_tb (i := 771) (by decide +kernel)) rfl, fw_in (fw_tb (i := 8) (by decide +kernel)) rfl, by decide, by decide +kernel, Or.inl (fw_in (fw_tb (i := 768) (by decide +kernel)) rfl)⟩
theorem ft_callV_7_217 : fw_L "FederationWireModel" 217 y_Mo_end prog_9_method_23_code 2 none 1 := ⟨fw_in (fw_tb (i := 767) (by decide +kernel)) rfl, fw_in (fw_tb (i := 8) (by decide +kernel)) rfl, by decide, by decide +kernel, Or.inl (fw_in (fw_tb (i := 764) (by decide +kernel)) rfl)⟩
theorem ft_callV_7_230 : fw_L "FederationWireModel" 230 y_Mo_come prog_9_method_26_code 8 (some .int) 2 := ⟨fw_in (fw_tb (i := 756) (by decide +kernel)) rfl, fw_in (fw_tb (i := 8) (by decide +kernel)) rfl, by decide, by decide +kernel, Or.inl (fw_in (fw_tb (i := 753) (by decide +kernel)) rfl)⟩
theorem ft_callV_7_234 : fw_L "FederationWireModel" 234 y_Mo_takeOut prog_9_method_28_code 4 (some .int) 1 := ⟨fw_in (fw_tb (i := 811) (by decide +kernel)) rfl, fw_in (fw_tb (i := 8) (by decide +kernel)) rfl, by decide, by decide +kernel, Or.inl (fw_in (fw_tb (i := 808) (by decide +kernel)) rfl)⟩
theorem ft_callV_7_237 : fw_L "FederationWireModel" 237 y_Mo_isFailedSilently prog_9_method_10_code 2 (some .boolean) 1 := ⟨fw_in (fw_tb (i := 839) (by decide +kernel)) rfl, fw_in (fw_tb (i := 8) (by decide +kernel)) rfl, by decide, by decide +kernel, Or.inl (fw_in (fw_tb (i := 836) (by decide +kernel)) rfl)⟩
theorem ft_callV_7_240 : fw_L "FederationWireModel" 240 y_Mo_joinedOnes prog_9_method_34_code 7 (some .int) 3 := ⟨fw_in (fw_tb (i := 835) (by decide +kernel)) rfl, fw_in (fw_tb (i := 8) (by decide +kernel)) rfl, by decide, by decide +kernel, Or.inl (fw_in (fw_tb (i := 832) (by decide +kernel)) rfl)⟩
end
section
theorem d_Frame_init_0 : decode prog_2_method_1_code 0 = .ok (.aload_n 0, 1) := by decide +kernel
theorem d_Frame_init_1 : decode prog_2_method_1_code 1 = .ok (.invokespecial 3, 3) := by decide +kernel
theorem d_Frame_init_4 : decode prog_2_method_1_code 4 = .ok (.aload_n 0, 1) := by decide +kernel
theorem d_Frame_init_5 : decode prog_2_method_1_code 5 = .ok (.iconst 0, 1) := by decide +kernel
theorem d_Frame_init_6 : decode prog_2_method_1_code 6 = .ok (.putfield 9, 3) := by decide +kernel
theorem d_Frame_init_9 : decode prog_2_method_1_code 9 = .ok (.aload_n 0, 1) := by decide +kernel
theorem d_Frame_init_10 : decode prog_2_method_1_code 10 = .ok (.iconst 0, 1) := by decide +kernel
theorem d_Frame_init_11 : decode prog_2_method_1_code 11 = .ok (.putfield 15, 3) := by decide +kernel
theorem d_Frame_init_14 : decode prog_2_method_1_code 14 = .ok (.aload_n 0, 1) := by decide +kernel
theorem d_Frame_init_15 : decode prog_2_method_1_code 15 = .ok (.iconst 0, 1) := by decide +kernel
theorem d_Frame_init_16 : decode prog_2_method_1_code 16 = .ok (.putfield 18, 3) := by decide +kernel
theorem d_Frame_init_19 : decode prog_2_method_1_code 19 = .ok (.aload_n 0, 1) := by decide +kernel
theorem d_Frame_init_20 : decode prog_2_method_1_code 20 = .ok (.bipush 18, 2) := by decide +kernel
theorem d_Frame_init_22 : decode prog_2_method_1_code 22 = .ok (.newarray .int, 2) := by decide +kernel
theorem d_Frame_init_24 : decode prog_2_method_1_code 24 = .ok (.putfield 21, 3) := by decide +kernel
theorem d_Frame_init_27 : decode prog_2_method_1_code 27 = .ok (.return_, 1) := by decide +kernel
theorem d_Frame_begin_0 : decode prog_2_method_2_code 0 = .ok (.aload_n 0, 1) := by decide +kernel
theorem d_Frame_begin_1 : decode prog_2_method_2_code 1 = .ok (.iload_n 1, 1) := by decide +kernel
theorem d_Frame_begin_2 : decode prog_2_method_2_code 2 = .ok (.putfield 9, 3) := by decide +kernel
theorem d_Frame_begin_5 : decode prog_2_method_2_code 5 = .ok (.aload_n 0, 1) := by decide +kernel
theorem d_Frame_begin_6 : decode prog_2_method_2_code 6 = .ok (.iload_n 2, 1) := by decide +kernel
theorem d_Frame_begin_7 : decode prog_2_method_2_code 7 = .ok (.putfield 15, 3) := by decide +kernel
theorem d_Frame_begin_10 : decode prog_2_method_2_code 10 = .ok (.aload_n 0, 1) := by decide +kernel
theorem d_Frame_begin_11 : decode prog_2_method_2_code 11 = .ok (.iconst 0, 1) := by decide +kernel
theorem d_Frame_begin_12 : decode prog_2_method_2_code 12 = .ok (.putfield 18, 3) := by decide +kernel
theorem d_Frame_begin_15 : decode prog_2_method_2_code 15 = .ok (.return_, 1) := by decide +kernel
theorem d_Frame_put_0 : decode prog_2_method_3_code 0 = .ok (.aload_n 0, 1) := by decide +kernel
theorem d_Frame_put_1 : decode prog_2_method_3_code 1 = .ok (.getfield 18, 3) := by decide +kernel
theorem d_Frame_put_4 : decode prog_2_method_3_code 4 = .ok (.ifCond .lt (39), 3) := by decide +kernel
theorem d_Frame_put_7 : decode prog_2_method_3_code 7 = .ok (.aload_n 0, 1) := by decide +kernel
theorem d_Frame_put_8 : decode prog_2_method_3_code 8 = .ok (.getfield 18, 3) := by decide +kernel
theorem d_Frame_put_11 : decode prog_2_method_3_code 11 = .ok (.aload_n 0, 1) := by decide +kernel
theorem d_Frame_put_12 : decode prog_2_method_3_code 12 = .ok (.getfield 21, 3) := by decide +kernel
theorem d_Frame_put_15 : decode prog_2_method_3_code 15 = .ok (.arraylength, 1) := by decide +kernel
theorem d_Frame_put_16 : decode prog_2_method_3_code 16 = .ok (.if_icmp .ge (27), 3) := by decide +kernel
theorem d_Frame_put_19 : decode prog_2_method_3_code 19 = .ok (.aload_n 0, 1) := by decide +kernel
theorem d_Frame_put_20 : decode prog_2_method_3_code 20 = .ok (.getfield 21, 3) := by decide +kernel
theorem d_Frame_put_23 : decode prog_2_method_3_code 23 = .ok (.aload_n 0, 1) := by decide +kernel
theorem d_Frame_put_24 : decode prog_2_method_3_code 24 = .ok (.getfield 18, 3) := by decide +kernel
theorem d_Frame_put_27 : decode prog_2_method_3_code 27 = .ok (.iload_n 1, 1) := by decide +kernel
theorem d_Frame_put_28 : decode prog_2_method_3_code 28 = .ok (.sipush 255, 3) := by decide +kernel
theorem d_Frame_put_31 : decode prog_2_method_3_code 31 = .ok (.iand, 1) := by decide +kernel
theorem d_Frame_put_32 : decode prog_2_method_3_code 32 = .ok (.iastore, 1) := by decide +kernel
theorem d_Frame_put_33 : decode prog_2_method_3_code 33 = .ok (.aload_n 0, 1) := by decide +kernel
theorem d_Frame_put_34 : decode prog_2_method_3_code 34 = .ok (.dup, 1) := by decide +kernel
theorem d_Frame_put_35 : decode prog_2_method_3_code 35 = .ok (.getfield 18, 3) := by decide +kernel
theorem d_Frame_put_38 : decode prog_2_method_3_code 38 = .ok (.iconst 1, 1) := by decide +kernel
theorem d_Frame_put_39 : decode prog_2_method_3_code 39 = .ok (.iadd, 1) := by decide +kernel
theorem d_Frame_put_40 : decode prog_2_method_3_code 40 = .ok (.putfield 18, 3) := by decide +kernel
theorem d_Frame_put_43 : decode prog_2_method_3_code 43 = .ok (.return_, 1) := by decide +kernel
theorem d_Frame_byteAt_0 : decode prog_2_method_4_code 0 = .ok (.iload_n 1, 1) := by decide +kernel
theorem d_Frame_byteAt_1 : decode prog_2_method_4_code 1 = .ok (.ifCond .lt (29), 3) := by decide +kernel
theorem d_Frame_byteAt_4 : decode prog_2_method_4_code 4 = .ok (.iload_n 1, 1) := by decide +kernel
theorem d_Frame_byteAt_5 : decode prog_2_method_4_code 5 = .ok (.aload_n 0, 1) := by decide +kernel
theorem d_Frame_byteAt_6 : decode prog_2_method_4_code 6 = .ok (.getfield 18, 3) := by decide +kernel
theorem d_Frame_byteAt_9 : decode prog_2_method_4_code 9 = .ok (.if_icmp .ge (21), 3) := by decide +kernel
theorem d_Frame_byteAt_12 : decode prog_2_method_4_code 12 = .ok (.iload_n 1, 1) := by decide +kernel
theorem d_Frame_byteAt_13 : decode prog_2_method_4_code 13 = .ok (.aload_n 0, 1) := by decide +kernel
theorem d_Frame_byteAt_14 : decode prog_2_method_4_code 14 = .ok (.getfield 21, 3) := by decide +kernel
theorem d_Frame_byteAt_17 : decode prog_2_method_4_code 17 = .ok (.arraylength, 1) := by decide +kernel
theorem d_Frame_byteAt_18 : decode prog_2_method_4_code 18 = .ok (.if_icmp .ge (12), 3) := by decide +kernel
theorem d_Frame_byteAt_21 : decode prog_2_method_4_code 21 = .ok (.aload_n 0, 1) := by decide +kernel
theorem d_Frame_byteAt_22 : decode prog_2_method_4_code 22 = .ok (.getfield 21, 3) := by decide +kernel
theorem d_Frame_byteAt_25 : decode prog_2_method_4_code 25 = .ok (.iload_n 1, 1) := by decide +kernel
theorem d_Frame_byteAt_26 : decode prog_2_method_4_code 26 = .ok (.iaload, 1) := by decide +kernel
theorem d_Frame_byteAt_27 : decode prog_2_method_4_code 27 = .ok (.goto (4), 3) := by decide +kernel
theorem d_Frame_byteAt_30 : decode prog_2_method_4_code 30 = .ok (.iconst 0, 1) := by decide +kernel
theorem d_Frame_byteAt_31 : decode prog_2_method_4_code 31 = .ok (.ireturn, 1) := by decide +kernel
theorem d_Frame_sum_0 : decode prog_2_method_5_code 0 = .ok (.aload_n 0, 1) := by decide +kernel
theorem d_Frame_sum_1 : decode prog_2_method_5_code 1 = .ok (.getfield 9, 3) := by decide +kernel
theorem d_Frame_sum_4 : decode prog_2_method_5_code 4 = .ok (.aload_n 0, 1) := by decide +kernel
theorem d_Frame_sum_5 : decode prog_2_method_5_code 5 = .ok (.getfield 15, 3) := by decide +kernel
theorem d_Frame_sum_8 : decode prog_2_method_5_code 8 = .ok (.ixor, 1) := by decide +kernel
theorem d_Frame_sum_9 : decode prog_2_method_5_code 9 = .ok (.aload_n 0, 1) := by decide +kernel
theorem d_Frame_sum_10 : decode prog_2_method_5_code 10 = .ok (.getfield 18, 3) := by decide +kernel
theorem d_Frame_sum_13 : decode prog_2_method_5_code 13 = .ok (.ixor, 1) := by decide +kernel
theorem d_Frame_sum_14 : decode prog_2_method_5_code 14 = .ok (.istore_n 1, 1) := by decide +kernel
theorem d_Frame_sum_15 : decode prog_2_method_5_code 15 = .ok (.iconst 0, 1) := by decide +kernel
theorem d_Frame_sum_16 : decode prog_2_method_5_code 16 = .ok (.istore_n 2, 1) := by decide +kernel
theorem d_Frame_sum_17 : decode prog_2_method_5_code 17 = .ok (.iload_n 2, 1) := by decide +kernel
theorem d_Frame_sum_18 : decode prog_2_method_5_code 18 = .ok (.aload_n 0, 1) := by decide +kernel
theorem d_Frame_sum_19 : decode prog_2_method_5_code 19 = .ok (.getfield 18, 3) := by decide +kernel
theorem d_Frame_sum_22 : decode prog_2_method_5_code 22 = .ok (.if_icmp .ge (27), 3) := by decide +kernel
theorem d_Frame_sum_25 : decode prog_2_method_5_code 25 = .ok (.iload_n 2, 1) := by decide +kernel
theorem d_Frame_sum_26 : decode prog_2_method_5_code 26 = .ok (.aload_n 0, 1) := by decide +kernel
theorem d_Frame_sum_27 : decode prog_2_method_5_code 27 = .ok (.getfield 21, 3) := by decide +kernel
theorem d_Frame_sum_30 : decode prog_2_method_5_code 30 = .ok (.arraylength, 1) := by decide +kernel
theorem d_Frame_sum_31 : decode prog_2_method_5_code 31 = .ok (.if_icmp .ge (18), 3) := by decide +kernel
theorem d_Frame_sum_34 : decode prog_2_method_5_code 34 = .ok (.iload_n 1, 1) := by decide +kernel
theorem d_Frame_sum_35 : decode prog_2_method_5_code 35 = .ok (.aload_n 0, 1) := by decide +kernel
theorem d_Frame_sum_36 : decode prog_2_method_5_code 36 = .ok (.getfield 21, 3) := by decide +kernel
theorem d_Frame_sum_39 : decode prog_2_method_5_code 39 = .ok (.iload_n 2, 1) := by decide +kernel
theorem d_Frame_sum_40 : decode prog_2_method_5_code 40 = .ok (.iaload, 1) := by decide +kernel
theorem d_Frame_sum_41 : decode prog_2_method_5_code 41 = .ok (.ixor, 1) := by decide +kernel
theorem d_Frame_sum_42 : decode prog_2_method_5_code 42 = .ok (.istore_n 1, 1) := by decide +kernel
theorem d_Frame_sum_43 : decode prog_2_method_5_code 43 = .ok (.iinc 2 1, 3) := by decide +kernel
theorem d_Frame_sum_46 : decode prog_2_method_5_code 46 = .ok (.goto (-29), 3) := by decide +kernel
theorem d_Frame_sum_49 : decode prog_2_method_5_code 49 = .ok (.iload_n 1, 1) := by decide +kernel
theorem d_Frame_sum_50 : decode prog_2_method_5_code 50 = .ok (.ireturn, 1) := by decide +kernel
theorem d_Pairs_init_0 : decode prog_4_method_1_code 0 = .ok (.aload_n 0, 1) := by decide +kernel
theorem d_Pairs_init_1 : decode prog_4_method_1_code 1 = .ok (.invokespecial 3, 3) := by decide +kernel
theorem d_Pairs_init_4 : decode prog_4_method_1_code 4 = .ok (.aload_n 0, 1) := by decide +kernel
theorem d_Pairs_init_5 : decode prog_4_method_1_code 5 = .ok (.iconst 0, 1) := by decide +kernel
theorem d_Pairs_init_6 : decode prog_4_method_1_code 6 = .ok (.putfield 9, 3) := by decide +kernel
theorem d_Pairs_init_9 : decode prog_4_method_1_code 9 = .ok (.iload_n 1, 1) := by decide +kernel
theorem d_Pairs_init_10 : decode prog_4_method_1_code 10 = .ok (.iconst 0, 1) := by decide +kernel
theorem d_Pairs_init_11 : decode prog_4_method_1_code 11 = .ok (.invokestatic 15, 3) := by decide +kernel
theorem d_Pairs_init_14 : decode prog_4_method_1_code 14 = .ok (.istore_n 2, 1) := by decide +kernel
theorem d_Pairs_init_15 : decode prog_4_method_1_code 15 = .ok (.aload_n 0, 1) := by decide +kernel
theorem d_Pairs_init_16 : decode prog_4_method_1_code 16 = .ok (.iload_n 2, 1) := by decide +kernel
theorem d_Pairs_init_17 : decode prog_4_method_1_code 17 = .ok (.newarray .int, 2) := by decide +kernel
theorem d_Pairs_init_19 : decode prog_4_method_1_code 19 = .ok (.putfield 21, 3) := by decide +kernel
theorem d_Pairs_init_22 : decode prog_4_method_1_code 22 = .ok (.aload_n 0, 1) := by decide +kernel
theorem d_Pairs_init_23 : decode prog_4_method_1_code 23 = .ok (.iload_n 2, 1) := by decide +kernel
theorem d_Pairs_init_24 : decode prog_4_method_1_code 24 = .ok (.newarray .int, 2) := by decide +kernel
theorem d_Pairs_init_26 : decode prog_4_method_1_code 26 = .ok (.putfield 25, 3) := by decide +kernel
theorem d_Pairs_init_29 : decode prog_4_method_1_code 29 = .ok (.return_, 1) := by decide +kernel
theorem d_Memory_init_0 : decode prog_3_method_1_code 0 = .ok (.aload_n 0, 1) := by decide +kernel
theorem d_Memory_init_1 : decode prog_3_method_1_code 1 = .ok (.invokespecial 3, 3) := by decide +kernel
theorem d_Memory_init_4 : decode prog_3_method_1_code 4 = .ok (.aload_n 0, 1) := by decide +kernel
theorem d_Memory_init_5 : decode prog_3_method_1_code 5 = .ok (.iconst 0, 1) := by decide +kernel
theorem d_Memory_init_6 : decode prog_3_method_1_code 6 = .ok (.putfield 9, 3) := by decide +kernel
theorem d_Memory_init_9 : decode prog_3_method_1_code 9 = .ok (.aload_n 0, 1) := by decide +kernel
theorem d_Memory_init_10 : decode prog_3_method_1_code 10 = .ok (.iconst 0, 1) := by decide +kernel
theorem d_Memory_init_11 : decode prog_3_method_1_code 11 = .ok (.putfield 15, 3) := by decide +kernel
theorem d_Memory_init_14 : decode prog_3_method_1_code 14 = .ok (.aload_n 0, 1) := by decide +kernel
theorem d_Memory_init_15 : decode prog_3_method_1_code 15 = .ok (.iconst 0, 1) := by decide +kernel
theorem d_Memory_init_16 : decode prog_3_method_1_code 16 = .ok (.putfield 18, 3) := by decide +kernel
theorem d_Memory_init_19 : decode prog_3_method_1_code 19 = .ok (.aload_n 0, 1) := by decide +kernel
theorem d_Memory_init_20 : decode prog_3_method_1_code 20 = .ok (.new 21, 3) := by decide +kernel
theorem d_Memory_init_23 : decode prog_3_method_1_code 23 = .ok (.dup, 1) := by decide +kernel
theorem d_Memory_init_24 : decode prog_3_method_1_code 24 = .ok (.bipush 60, 2) := by decide +kernel
theorem d_Memory_init_26 : decode prog_3_method_1_code 26 = .ok (.invokespecial 23, 3) := by decide +kernel
theorem d_Memory_init_29 : decode prog_3_method_1_code 29 = .ok (.putfield 26, 3) := by decide +kernel
theorem d_Memory_init_32 : decode prog_3_method_1_code 32 = .ok (.return_, 1) := by decide +kernel
theorem d_Pairs_add_0 : decode prog_4_method_2_code 0 = .ok (.aload_n 0, 1) := by decide +kernel
theorem d_Pairs_add_1 : decode prog_4_method_2_code 1 = .ok (.getfield 9, 3) := by decide +kernel
theorem d_Pairs_add_4 : decode prog_4_method_2_code 4 = .ok (.ifCond .lt (27), 3) := by decide +kernel
theorem d_Pairs_add_7 : decode prog_4_method_2_code 7 = .ok (.aload_n 0, 1) := by decide +kernel
theorem d_Pairs_add_8 : decode prog_4_method_2_code 8 = .ok (.getfield 9, 3) := by decide +kernel
theorem d_Pairs_add_11 : decode prog_4_method_2_code 11 = .ok (.aload_n 0, 1) := by decide +kernel
theorem d_Pairs_add_12 : decode prog_4_method_2_code 12 = .ok (.getfield 21, 3) := by decide +kernel
theorem d_Pairs_add_15 : decode prog_4_method_2_code 15 = .ok (.arraylength, 1) := by decide +kernel
theorem d_Pairs_add_16 : decode prog_4_method_2_code 16 = .ok (.if_icmp .ge (15), 3) := by decide +kernel
theorem d_Pairs_add_19 : decode prog_4_method_2_code 19 = .ok (.aload_n 0, 1) := by decide +kernel
theorem d_Pairs_add_20 : decode prog_4_method_2_code 20 = .ok (.getfield 9, 3) := by decide +kernel
theorem d_Pairs_add_23 : decode prog_4_method_2_code 23 = .ok (.aload_n 0, 1) := by decide +kernel
theorem d_Pairs_add_24 : decode prog_4_method_2_code 24 = .ok (.getfield 25, 3) := by decide +kernel
theorem d_Pairs_add_27 : decode prog_4_method_2_code 27 = .ok (.arraylength, 1) := by decide +kernel
theorem d_Pairs_add_28 : decode prog_4_method_2_code 28 = .ok (.if_icmp .lt (5), 3) := by decide +kernel
theorem d_Pairs_add_31 : decode prog_4_method_2_code 31 = .ok (.iconst 0, 1) := by decide +kernel
theorem d_Pairs_add_32 : decode prog_4_method_2_code 32 = .ok (.ireturn, 1) := by decide +kernel
theorem d_Pairs_add_33 : decode prog_4_method_2_code 33 = .ok (.aload_n 0, 1) := by decide +kernel
theorem d_Pairs_add_34 : decode prog_4_method_2_code 34 = .ok (.getfield 21, 3) := by decide +kernel
theorem d_Pairs_add_37 : decode prog_4_method_2_code 37 = .ok (.aload_n 0, 1) := by decide +kernel
theorem d_Pairs_add_38 : decode prog_4_method_2_code 38 = .ok (.getfield 9, 3) := by decide +kernel
theorem d_Pairs_add_41 : decode prog_4_method_2_code 41 = .ok (.iload_n 1, 1) := by decide +kernel
theorem d_Pairs_add_42 : decode prog_4_method_2_code 42 = .ok (.iastore, 1) := by decide +kernel
theorem d_Pairs_add_43 : decode prog_4_method_2_code 43 = .ok (.aload_n 0, 1) := by decide +kernel
theorem d_Pairs_add_44 : decode prog_4_method_2_code 44 = .ok (.getfield 25, 3) := by decide +kernel
theorem d_Pairs_add_47 : decode prog_4_method_2_code 47 = .ok (.aload_n 0, 1) := by decide +kernel
theorem d_Pairs_add_48 : decode prog_4_method_2_code 48 = .ok (.getfield 9, 3) := by decide +kernel
theorem d_Pairs_add_51 : decode prog_4_method_2_code 51 = .ok (.iload_n 2, 1) := by decide +kernel
theorem d_Pairs_add_52 : decode prog_4_method_2_code 52 = .ok (.iastore, 1) := by decide +kernel
theorem d_Pairs_add_53 : decode prog_4_method_2_code 53 = .ok (.aload_n 0, 1) := by decide +kernel
theorem d_Pairs_add_54 : decode prog_4_method_2_code 54 = .ok (.dup, 1) := by decide +kernel
theorem d_Pairs_add_55 : decode prog_4_method_2_code 55 = .ok (.getfield 9, 3) := by decide +kernel
theorem d_Pairs_add_58 : decode prog_4_method_2_code 58 = .ok (.iconst 1, 1) := by decide +kernel
theorem d_Pairs_add_59 : decode prog_4_method_2_code 59 = .ok (.iadd, 1) := by decide +kernel
theorem d_Pairs_add_60 : decode prog_4_method_2_code 60 = .ok (.putfield 9, 3) := by decide +kernel
theorem d_Pairs_add_63 : decode prog_4_method_2_code 63 = .ok (.iconst 1, 1) := by decide +kernel
theorem d_Pairs_add_64 : decode prog_4_method_2_code 64 = .ok (.ireturn, 1) := by decide +kernel
theorem d_Pairs_keyAt_0 : decode prog_4_method_3_code 0 = .ok (.iload_n 1, 1) := by decide +kernel
theorem d_Pairs_keyAt_1 : decode prog_4_method_3_code 1 = .ok (.ifCond .lt (29), 3) := by decide +kernel
theorem d_Pairs_keyAt_4 : decode prog_4_method_3_code 4 = .ok (.iload_n 1, 1) := by decide +kernel
theorem d_Pairs_keyAt_5 : decode prog_4_method_3_code 5 = .ok (.aload_n 0, 1) := by decide +kernel
theorem d_Pairs_keyAt_6 : decode prog_4_method_3_code 6 = .ok (.getfield 9, 3) := by decide +kernel
theorem d_Pairs_keyAt_9 : decode prog_4_method_3_code 9 = .ok (.if_icmp .ge (21), 3) := by decide +kernel
theorem d_Pairs_keyAt_12 : decode prog_4_method_3_code 12 = .ok (.iload_n 1, 1) := by decide +kernel
theorem d_Pairs_keyAt_13 : decode prog_4_method_3_code 13 = .ok (.aload_n 0, 1) := by decide +kernel
theorem d_Pairs_keyAt_14 : decode prog_4_method_3_code 14 = .ok (.getfield 21, 3) := by decide +kernel
theorem d_Pairs_keyAt_17 : decode prog_4_method_3_code 17 = .ok (.arraylength, 1) := by decide +kernel
theorem d_Pairs_keyAt_18 : decode prog_4_method_3_code 18 = .ok (.if_icmp .ge (12), 3) := by decide +kernel
theorem d_Pairs_keyAt_21 : decode prog_4_method_3_code 21 = .ok (.aload_n 0, 1) := by decide +kernel
theorem d_Pairs_keyAt_22 : decode prog_4_method_3_code 22 = .ok (.getfield 21, 3) := by decide +kernel
theorem d_Pairs_keyAt_25 : decode prog_4_method_3_code 25 = .ok (.iload_n 1, 1) := by decide +kernel
theorem d_Pairs_keyAt_26 : decode prog_4_method_3_code 26 = .ok (.iaload, 1) := by decide +kernel
theorem d_Pairs_keyAt_27 : decode prog_4_method_3_code 27 = .ok (.goto (5), 3) := by decide +kernel
theorem d_Pairs_keyAt_30 : decode prog_4_method_3_code 30 = .ok (.bipush (-2), 2) := by decide +kernel
theorem d_Pairs_keyAt_32 : decode prog_4_method_3_code 32 = .ok (.ireturn, 1) := by decide +kernel
theorem d_Pairs_valueAt_0 : decode prog_4_method_4_code 0 = .ok (.iload_n 1, 1) := by decide +kernel
theorem d_Pairs_valueAt_1 : decode prog_4_method_4_code 1 = .ok (.ifCond .lt (29), 3) := by decide +kernel
theorem d_Pairs_valueAt_4 : decode prog_4_method_4_code 4 = .ok (.iload_n 1, 1) := by decide +kernel
theorem d_Pairs_valueAt_5 : decode prog_4_method_4_code 5 = .ok (.aload_n 0, 1) := by decide +kernel
theorem d_Pairs_valueAt_6 : decode prog_4_method_4_code 6 = .ok (.getfield 9, 3) := by decide +kernel
theorem d_Pairs_valueAt_9 : decode prog_4_method_4_code 9 = .ok (.if_icmp .ge (21), 3) := by decide +kernel
theorem d_Pairs_valueAt_12 : decode prog_4_method_4_code 12 = .ok (.iload_n 1, 1) := by decide +kernel
theorem d_Pairs_valueAt_13 : decode prog_4_method_4_code 13 = .ok (.aload_n 0, 1) := by decide +kernel
theorem d_Pairs_valueAt_14 : decode prog_4_method_4_code 14 = .ok (.getfield 25, 3) := by decide +kernel
theorem d_Pairs_valueAt_17 : decode prog_4_method_4_code 17 = .ok (.arraylength, 1) := by decide +kernel
theorem d_Pairs_valueAt_18 : decode prog_4_method_4_code 18 = .ok (.if_icmp .ge (12), 3) := by decide +kernel
theorem d_Pairs_valueAt_21 : decode prog_4_method_4_code 21 = .ok (.aload_n 0, 1) := by decide +kernel
theorem d_Pairs_valueAt_22 : decode prog_4_method_4_code 22 = .ok (.getfield 25, 3) := by decide +kernel
theorem d_Pairs_valueAt_25 : decode prog_4_method_4_code 25 = .ok (.iload_n 1, 1) := by decide +kernel
theorem d_Pairs_valueAt_26 : decode prog_4_method_4_code 26 = .ok (.iaload, 1) := by decide +kernel
theorem d_Pairs_valueAt_27 : decode prog_4_method_4_code 27 = .ok (.goto (5), 3) := by decide +kernel
theorem d_Pairs_valueAt_30 : decode prog_4_method_4_code 30 = .ok (.bipush (-2), 2) := by decide +kernel
theorem d_Pairs_valueAt_32 : decode prog_4_method_4_code 32 = .ok (.ireturn, 1) := by decide +kernel
theorem d_Pairs_clear_0 : decode prog_4_method_5_code 0 = .ok (.aload_n 0, 1) := by decide +kernel
theorem d_Pairs_clear_1 : decode prog_4_method_5_code 1 = .ok (.iconst 0, 1) := by decide +kernel
theorem d_Pairs_clear_2 : decode prog_4_method_5_code 2 = .ok (.putfield 9, 3) := by decide +kernel
theorem d_Pairs_clear_5 : decode prog_4_method_5_code 5 = .ok (.return_, 1) := by decide +kernel
theorem d_Request_addKey_0 : decode prog_5_method_2_code 0 = .ok (.iconst 0, 1) := by decide +kernel
theorem d_Request_addKey_1 : decode prog_5_method_2_code 1 = .ok (.istore_n 2, 1) := by decide +kernel
theorem d_Request_addKey_2 : decode prog_5_method_2_code 2 = .ok (.iload_n 2, 1) := by decide +kernel
theorem d_Request_addKey_3 : decode prog_5_method_2_code 3 = .ok (.aload_n 0, 1) := by decide +kernel
theorem d_Request_addKey_4 : decode prog_5_method_2_code 4 = .ok (.getfield 9, 3) := by decide +kernel
theorem d_Request_addKey_7 : decode prog_5_method_2_code 7 = .ok (.if_icmp .ge (29), 3) := by decide +kernel
theorem d_Request_addKey_10 : decode prog_5_method_2_code 10 = .ok (.iload_n 2, 1) := by decide +kernel
theorem d_Request_addKey_11 : decode prog_5_method_2_code 11 = .ok (.aload_n 0, 1) := by decide +kernel
theorem d_Request_addKey_12 : decode prog_5_method_2_code 12 = .ok (.getfield 77, 3) := by decide +kernel
theorem d_Request_addKey_15 : decode prog_5_method_2_code 15 = .ok (.arraylength, 1) := by decide +kernel
theorem d_Request_addKey_16 : decode prog_5_method_2_code 16 = .ok (.if_icmp .ge (20), 3) := by decide +kernel
theorem d_Request_addKey_19 : decode prog_5_method_2_code 19 = .ok (.aload_n 0, 1) := by decide +kernel
theorem d_Request_addKey_20 : decode prog_5_method_2_code 20 = .ok (.getfield 77, 3) := by decide +kernel
theorem d_Request_addKey_23 : decode prog_5_method_2_code 23 = .ok (.iload_n 2, 1) := by decide +kernel
theorem d_Request_addKey_24 : decode prog_5_method_2_code 24 = .ok (.iaload, 1) := by decide +kernel
theorem d_Request_addKey_25 : decode prog_5_method_2_code 25 = .ok (.iload_n 1, 1) := by decide +kernel
theorem d_Request_addKey_26 : decode prog_5_method_2_code 26 = .ok (.if_icmp .ne (4), 3) := by decide +kernel
theorem d_Request_addKey_29 : decode prog_5_method_2_code 29 = .ok (.return_, 1) := by decide +kernel
theorem d_Request_addKey_30 : decode prog_5_method_2_code 30 = .ok (.iinc 2 1, 3) := by decide +kernel
theorem d_Request_addKey_33 : decode prog_5_method_2_code 33 = .ok (.goto (-31), 3) := by decide +kernel
theorem d_Request_addKey_36 : decode prog_5_method_2_code 36 = .ok (.aload_n 0, 1) := by decide +kernel
theorem d_Request_addKey_37 : decode prog_5_method_2_code 37 = .ok (.getfield 9, 3) := by decide +kernel
theorem d_Request_addKey_40 : decode prog_5_method_2_code 40 = .ok (.ifCond .lt (35), 3) := by decide +kernel
theorem d_Request_addKey_43 : decode prog_5_method_2_code 43 = .ok (.aload_n 0, 1) := by decide +kernel
theorem d_Request_addKey_44 : decode prog_5_method_2_code 44 = .ok (.getfield 9, 3) := by decide +kernel
theorem d_Request_addKey_47 : decode prog_5_method_2_code 47 = .ok (.aload_n 0, 1) := by decide +kernel
theorem d_Request_addKey_48 : decode prog_5_method_2_code 48 = .ok (.getfield 77, 3) := by decide +kernel
theorem d_Request_addKey_51 : decode prog_5_method_2_code 51 = .ok (.arraylength, 1) := by decide +kernel
theorem d_Request_addKey_52 : decode prog_5_method_2_code 52 = .ok (.if_icmp .ge (23), 3) := by decide +kernel
theorem d_Request_addKey_55 : decode prog_5_method_2_code 55 = .ok (.aload_n 0, 1) := by decide +kernel
theorem d_Request_addKey_56 : decode prog_5_method_2_code 56 = .ok (.getfield 77, 3) := by decide +kernel
theorem d_Request_addKey_59 : decode prog_5_method_2_code 59 = .ok (.aload_n 0, 1) := by decide +kernel
theorem d_Request_addKey_60 : decode prog_5_method_2_code 60 = .ok (.getfield 9, 3) := by decide +kernel
theorem d_Request_addKey_63 : decode prog_5_method_2_code 63 = .ok (.iload_n 1, 1) := by decide +kernel
theorem d_Request_addKey_64 : decode prog_5_method_2_code 64 = .ok (.iastore, 1) := by decide +kernel
theorem d_Request_addKey_65 : decode prog_5_method_2_code 65 = .ok (.aload_n 0, 1) := by decide +kernel
theorem d_Request_addKey_66 : decode prog_5_method_2_code 66 = .ok (.dup, 1) := by decide +kernel
theorem d_Request_addKey_67 : decode prog_5_method_2_code 67 = .ok (.getfield 9, 3) := by decide +kernel
theorem d_Request_addKey_70 : decode prog_5_method_2_code 70 = .ok (.iconst 1, 1) := by decide +kernel
theorem d_Request_addKey_71 : decode prog_5_method_2_code 71 = .ok (.iadd, 1) := by decide +kernel
theorem d_Request_addKey_72 : decode prog_5_method_2_code 72 = .ok (.putfield 9, 3) := by decide +kernel
theorem d_Request_addKey_75 : decode prog_5_method_2_code 75 = .ok (.return_, 1) := by decide +kernel
theorem d_Request_hasKeysLeft_0 : decode prog_5_method_3_code 0 = .ok (.aload_n 0, 1) := by decide +kernel
theorem d_Request_hasKeysLeft_1 : decode prog_5_method_3_code 1 = .ok (.getfield 15, 3) := by decide +kernel
theorem d_Request_hasKeysLeft_4 : decode prog_5_method_3_code 4 = .ok (.aload_n 0, 1) := by decide +kernel
theorem d_Request_hasKeysLeft_5 : decode prog_5_method_3_code 5 = .ok (.getfield 9, 3) := by decide +kernel
theorem d_Request_hasKeysLeft_8 : decode prog_5_method_3_code 8 = .ok (.if_icmp .ge (7), 3) := by decide +kernel
theorem d_Request_hasKeysLeft_11 : decode prog_5_method_3_code 11 = .ok (.iconst 1, 1) := by decide +kernel
theorem d_Request_hasKeysLeft_12 : decode prog_5_method_3_code 12 = .ok (.goto (4), 3) := by decide +kernel
theorem d_Request_hasKeysLeft_15 : decode prog_5_method_3_code 15 = .ok (.iconst 0, 1) := by decide +kernel
theorem d_Request_hasKeysLeft_16 : decode prog_5_method_3_code 16 = .ok (.ireturn, 1) := by decide +kernel
theorem d_Request_nextStep_0 : decode prog_5_method_6_code 0 = .ok (.aload_n 0, 1) := by decide +kernel
theorem d_Request_nextStep_1 : decode prog_5_method_6_code 1 = .ok (.aload_n 0, 1) := by decide +kernel
theorem d_Request_nextStep_2 : decode prog_5_method_6_code 2 = .ok (.getfield 37, 3) := by decide +kernel
theorem d_Request_nextStep_5 : decode prog_5_method_6_code 5 = .ok (.iconst 1, 1) := by decide +kernel
theorem d_Request_nextStep_6 : decode prog_5_method_6_code 6 = .ok (.iadd, 1) := by decide +kernel
theorem d_Request_nextStep_7 : decode prog_5_method_6_code 7 = .ok (.sipush 255, 3) := by decide +kernel
theorem d_Request_nextStep_10 : decode prog_5_method_6_code 10 = .ok (.iand, 1) := by decide +kernel
theorem d_Request_nextStep_11 : decode prog_5_method_6_code 11 = .ok (.putfield 37, 3) := by decide +kernel
theorem d_Request_nextStep_14 : decode prog_5_method_6_code 14 = .ok (.aload_n 0, 1) := by decide +kernel
theorem d_Request_nextStep_15 : decode prog_5_method_6_code 15 = .ok (.getfield 33, 3) := by decide +kernel
theorem d_Request_nextStep_18 : decode prog_5_method_6_code 18 = .ok (.iload_n 1, 1) := by decide +kernel
theorem d_Request_nextStep_19 : decode prog_5_method_6_code 19 = .ok (.aload_n 0, 1) := by decide +kernel
theorem d_Request_nextStep_20 : decode prog_5_method_6_code 20 = .ok (.getfield 52, 3) := by decide +kernel
theorem d_Request_nextStep_23 : decode prog_5_method_6_code 23 = .ok (.invokevirtual 104, 3) := by decide +kernel
theorem d_Request_nextStep_26 : decode prog_5_method_6_code 26 = .ok (.aload_n 0, 1) := by decide +kernel
theorem d_Request_nextStep_27 : decode prog_5_method_6_code 27 = .ok (.getfield 33, 3) := by decide +kernel
theorem d_Request_nextStep_30 : decode prog_5_method_6_code 30 = .ok (.aload_n 0, 1) := by decide +kernel
theorem d_Request_nextStep_31 : decode prog_5_method_6_code 31 = .ok (.getfield 37, 3) := by decide +kernel
theorem d_Request_nextStep_34 : decode prog_5_method_6_code 34 = .ok (.invokevirtual 101, 3) := by decide +kernel
theorem d_Request_nextStep_37 : decode prog_5_method_6_code 37 = .ok (.return_, 1) := by decide +kernel
theorem d_Request_writeAsk_0 : decode prog_5_method_4_code 0 = .ok (.aload_n 0, 1) := by decide +kernel
theorem d_Request_writeAsk_1 : decode prog_5_method_4_code 1 = .ok (.iconst 1, 1) := by decide +kernel
theorem d_Request_writeAsk_2 : decode prog_5_method_4_code 2 = .ok (.invokevirtual 95, 3) := by decide +kernel
theorem d_Request_writeAsk_5 : decode prog_5_method_4_code 5 = .ok (.aload_n 0, 1) := by decide +kernel
theorem d_Request_writeAsk_6 : decode prog_5_method_4_code 6 = .ok (.getfield 15, 3) := by decide +kernel
theorem d_Request_writeAsk_9 : decode prog_5_method_4_code 9 = .ok (.aload_n 0, 1) := by decide +kernel
theorem d_Request_writeAsk_10 : decode prog_5_method_4_code 10 = .ok (.getfield 62, 3) := by decide +kernel
theorem d_Request_writeAsk_13 : decode prog_5_method_4_code 13 = .ok (.iadd, 1) := by decide +kernel
theorem d_Request_writeAsk_14 : decode prog_5_method_4_code 14 = .ok (.aload_n 0, 1) := by decide +kernel
theorem d_Request_writeAsk_15 : decode prog_5_method_4_code 15 = .ok (.getfield 9, 3) := by decide +kernel
theorem d_Request_writeAsk_18 : decode prog_5_method_4_code 18 = .ok (.invokestatic 98, 3) := by decide +kernel
theorem d_Request_writeAsk_21 : decode prog_5_method_4_code 21 = .ok (.aload_n 0, 1) := by decide +kernel
theorem d_Request_writeAsk_22 : decode prog_5_method_4_code 22 = .ok (.getfield 77, 3) := by decide +kernel
theorem d_Request_writeAsk_25 : decode prog_5_method_4_code 25 = .ok (.arraylength, 1) := by decide +kernel
theorem d_Request_writeAsk_26 : decode prog_5_method_4_code 26 = .ok (.invokestatic 98, 3) := by decide +kernel
theorem d_Request_writeAsk_29 : decode prog_5_method_4_code 29 = .ok (.istore_n 1, 1) := by decide +kernel
theorem d_Request_writeAsk_30 : decode prog_5_method_4_code 30 = .ok (.aload_n 0, 1) := by decide +kernel
theorem d_Request_writeAsk_31 : decode prog_5_method_4_code 31 = .ok (.getfield 15, 3) := by decide +kernel
theorem d_Request_writeAsk_34 : decode prog_5_method_4_code 34 = .ok (.iconst 0, 1) := by decide +kernel
theorem d_Request_writeAsk_35 : decode prog_5_method_4_code 35 = .ok (.invokestatic 71, 3) := by decide +kernel
theorem d_Request_writeAsk_38 : decode prog_5_method_4_code 38 = .ok (.istore_n 2, 1) := by decide +kernel
theorem d_Request_writeAsk_39 : decode prog_5_method_4_code 39 = .ok (.iload_n 2, 1) := by decide +kernel
theorem d_Request_writeAsk_40 : decode prog_5_method_4_code 40 = .ok (.iload_n 1, 1) := by decide +kernel
theorem d_Request_writeAsk_41 : decode prog_5_method_4_code 41 = .ok (.if_icmp .ge (22), 3) := by decide +kernel
theorem d_Request_writeAsk_44 : decode prog_5_method_4_code 44 = .ok (.aload_n 0, 1) := by decide +kernel
theorem d_Request_writeAsk_45 : decode prog_5_method_4_code 45 = .ok (.getfield 33, 3) := by decide +kernel
theorem d_Request_writeAsk_48 : decode prog_5_method_4_code 48 = .ok (.aload_n 0, 1) := by decide +kernel
theorem d_Request_writeAsk_49 : decode prog_5_method_4_code 49 = .ok (.getfield 77, 3) := by decide +kernel
theorem d_Request_writeAsk_52 : decode prog_5_method_4_code 52 = .ok (.iload_n 2, 1) := by decide +kernel
theorem d_Request_writeAsk_53 : decode prog_5_method_4_code 53 = .ok (.iaload, 1) := by decide +kernel
theorem d_Request_writeAsk_54 : decode prog_5_method_4_code 54 = .ok (.invokevirtual 101, 3) := by decide +kernel
theorem d_Request_writeAsk_57 : decode prog_5_method_4_code 57 = .ok (.iinc 2 1, 3) := by decide +kernel
theorem d_Request_writeAsk_60 : decode prog_5_method_4_code 60 = .ok (.goto (-21), 3) := by decide +kernel
theorem d_Request_writeAsk_63 : decode prog_5_method_4_code 63 = .ok (.aload_n 0, 1) := by decide +kernel
theorem d_Request_writeAsk_64 : decode prog_5_method_4_code 64 = .ok (.iload_n 1, 1) := by decide +kernel
theorem d_Request_writeAsk_65 : decode prog_5_method_4_code 65 = .ok (.putfield 15, 3) := by decide +kernel
theorem d_Request_writeAsk_68 : decode prog_5_method_4_code 68 = .ok (.aload_n 0, 1) := by decide +kernel
theorem d_Request_writeAsk_69 : decode prog_5_method_4_code 69 = .ok (.iconst 0, 1) := by decide +kernel
theorem d_Request_writeAsk_70 : decode prog_5_method_4_code 70 = .ok (.putfield 27, 3) := by decide +kernel
theorem d_Request_writeAsk_73 : decode prog_5_method_4_code 73 = .ok (.return_, 1) := by decide +kernel
theorem d_Request_writeMore_0 : decode prog_5_method_5_code 0 = .ok (.aload_n 0, 1) := by decide +kernel
theorem d_Request_writeMore_1 : decode prog_5_method_5_code 1 = .ok (.iconst 3, 1) := by decide +kernel
theorem d_Request_writeMore_2 : decode prog_5_method_5_code 2 = .ok (.invokevirtual 95, 3) := by decide +kernel
theorem d_Request_writeMore_5 : decode prog_5_method_5_code 5 = .ok (.aload_n 0, 1) := by decide +kernel
theorem d_Request_writeMore_6 : decode prog_5_method_5_code 6 = .ok (.getfield 33, 3) := by decide +kernel
theorem d_Request_writeMore_9 : decode prog_5_method_5_code 9 = .ok (.aload_n 0, 1) := by decide +kernel
theorem d_Request_writeMore_10 : decode prog_5_method_5_code 10 = .ok (.getfield 27, 3) := by decide +kernel
theorem d_Request_writeMore_13 : decode prog_5_method_5_code 13 = .ok (.invokevirtual 101, 3) := by decide +kernel
theorem d_Request_writeMore_16 : decode prog_5_method_5_code 16 = .ok (.return_, 1) := by decide +kernel
theorem d_Request_waitsFor_0 : decode prog_5_method_7_code 0 = .ok (.aload_n 0, 1) := by decide +kernel
theorem d_Request_waitsFor_1 : decode prog_5_method_7_code 1 = .ok (.getfield 46, 3) := by decide +kernel
theorem d_Request_waitsFor_4 : decode prog_5_method_7_code 4 = .ok (.ifCond .ne (43), 3) := by decide +kernel
theorem d_Request_waitsFor_7 : decode prog_5_method_7_code 7 = .ok (.aload_n 0, 1) := by decide +kernel
theorem d_Request_waitsFor_8 : decode prog_5_method_7_code 8 = .ok (.getfield 55, 3) := by decide +kernel
theorem d_Request_waitsFor_11 : decode prog_5_method_7_code 11 = .ok (.iload_n 2, 1) := by decide +kernel
theorem d_Request_waitsFor_12 : decode prog_5_method_7_code 12 = .ok (.if_icmp .ne (35), 3) := by decide +kernel
theorem d_Request_waitsFor_15 : decode prog_5_method_7_code 15 = .ok (.aload_n 1, 1) := by decide +kernel
theorem d_Request_waitsFor_16 : decode prog_5_method_7_code 16 = .ok (.iconst 0, 1) := by decide +kernel
theorem d_Request_waitsFor_17 : decode prog_5_method_7_code 17 = .ok (.invokevirtual 108, 3) := by decide +kernel
theorem d_Request_waitsFor_20 : decode prog_5_method_7_code 20 = .ok (.aload_n 0, 1) := by decide +kernel
theorem d_Request_waitsFor_21 : decode prog_5_method_7_code 21 = .ok (.getfield 37, 3) := by decide +kernel
theorem d_Request_waitsFor_24 : decode prog_5_method_7_code 24 = .ok (.if_icmp .ne (23), 3) := by decide +kernel
theorem d_Request_waitsFor_27 : decode prog_5_method_7_code 27 = .ok (.aload_n 1, 1) := by decide +kernel
theorem d_Request_waitsFor_28 : decode prog_5_method_7_code 28 = .ok (.getfield 111, 3) := by decide +kernel
theorem d_Request_waitsFor_31 : decode prog_5_method_7_code 31 = .ok (.iconst 2, 1) := by decide +kernel
theorem d_Request_waitsFor_32 : decode prog_5_method_7_code 32 = .ok (.if_icmp .eq (11), 3) := by decide +kernel
theorem d_Request_waitsFor_35 : decode prog_5_method_7_code 35 = .ok (.aload_n 1, 1) := by decide +kernel
theorem d_Request_waitsFor_36 : decode prog_5_method_7_code 36 = .ok (.getfield 111, 3) := by decide +kernel
theorem d_Request_waitsFor_39 : decode prog_5_method_7_code 39 = .ok (.iconst 4, 1) := by decide +kernel
theorem d_Request_waitsFor_40 : decode prog_5_method_7_code 40 = .ok (.if_icmp .ne (7), 3) := by decide +kernel
theorem d_Request_waitsFor_43 : decode prog_5_method_7_code 43 = .ok (.iconst 1, 1) := by decide +kernel
theorem d_Request_waitsFor_44 : decode prog_5_method_7_code 44 = .ok (.goto (4), 3) := by decide +kernel
theorem d_Request_waitsFor_47 : decode prog_5_method_7_code 47 = .ok (.iconst 0, 1) := by decide +kernel
theorem d_Request_waitsFor_48 : decode prog_5_method_7_code 48 = .ok (.ireturn, 1) := by decide +kernel
theorem d_Request_takeRows_0 : decode prog_5_method_8_code 0 = .ok (.iconst 2, 1) := by decide +kernel
theorem d_Request_takeRows_1 : decode prog_5_method_8_code 1 = .ok (.istore_n 2, 1) := by decide +kernel
theorem d_Request_takeRows_2 : decode prog_5_method_8_code 2 = .ok (.iload_n 2, 1) := by decide +kernel
theorem d_Request_takeRows_3 : decode prog_5_method_8_code 3 = .ok (.iconst 1, 1) := by decide +kernel
theorem d_Request_takeRows_4 : decode prog_5_method_8_code 4 = .ok (.iadd, 1) := by decide +kernel
theorem d_Request_takeRows_5 : decode prog_5_method_8_code 5 = .ok (.aload_n 1, 1) := by decide +kernel
theorem d_Request_takeRows_6 : decode prog_5_method_8_code 6 = .ok (.getfield 114, 3) := by decide +kernel
theorem d_Request_takeRows_9 : decode prog_5_method_8_code 9 = .ok (.if_icmp .ge (39), 3) := by decide +kernel
theorem d_Request_takeRows_12 : decode prog_5_method_8_code 12 = .ok (.aload_n 0, 1) := by decide +kernel
theorem d_Request_takeRows_13 : decode prog_5_method_8_code 13 = .ok (.getfield 23, 3) := by decide +kernel
theorem d_Request_takeRows_16 : decode prog_5_method_8_code 16 = .ok (.aload_n 1, 1) := by decide +kernel
theorem d_Request_takeRows_17 : decode prog_5_method_8_code 17 = .ok (.iload_n 2, 1) := by decide +kernel
theorem d_Request_takeRows_18 : decode prog_5_method_8_code 18 = .ok (.invokevirtual 108, 3) := by decide +kernel
theorem d_Request_takeRows_21 : decode prog_5_method_8_code 21 = .ok (.aload_n 1, 1) := by decide +kernel
theorem d_Request_takeRows_22 : decode prog_5_method_8_code 22 = .ok (.iload_n 2, 1) := by decide +kernel
theorem d_Request_takeRows_23 : decode prog_5_method_8_code 23 = .ok (.iconst 1, 1) := by decide +kernel
theorem d_Request_takeRows_24 : decode prog_5_method_8_code 24 = .ok (.iadd, 1) := by decide +kernel
theorem d_Request_takeRows_25 : decode prog_5_method_8_code 25 = .ok (.invokevirtual 108, 3) := by decide +kernel
theorem d_Request_takeRows_28 : decode prog_5_method_8_code 28 = .ok (.invokevirtual 88, 3) := by decide +kernel
theorem d_Request_takeRows_31 : decode prog_5_method_8_code 31 = .ok (.pop, 1) := by decide +kernel
theorem d_Request_takeRows_32 : decode prog_5_method_8_code 32 = .ok (.aload_n 0, 1) := by decide +kernel
theorem d_Request_takeRows_33 : decode prog_5_method_8_code 33 = .ok (.dup, 1) := by decide +kernel
theorem d_Request_takeRows_34 : decode prog_5_method_8_code 34 = .ok (.getfield 27, 3) := by decide +kernel
theorem d_Request_takeRows_37 : decode prog_5_method_8_code 37 = .ok (.iconst 1, 1) := by decide +kernel
theorem d_Request_takeRows_38 : decode prog_5_method_8_code 38 = .ok (.iadd, 1) := by decide +kernel
theorem d_Request_takeRows_39 : decode prog_5_method_8_code 39 = .ok (.putfield 27, 3) := by decide +kernel
theorem d_Request_takeRows_42 : decode prog_5_method_8_code 42 = .ok (.iinc 2 2, 3) := by decide +kernel
theorem d_Request_takeRows_45 : decode prog_5_method_8_code 45 = .ok (.goto (-43), 3) := by decide +kernel
theorem d_Request_takeRows_48 : decode prog_5_method_8_code 48 = .ok (.return_, 1) := by decide +kernel
theorem d_Request_fail_0 : decode prog_5_method_9_code 0 = .ok (.aload_n 0, 1) := by decide +kernel
theorem d_Request_fail_1 : decode prog_5_method_9_code 1 = .ok (.iload_n 1, 1) := by decide +kernel
theorem d_Request_fail_2 : decode prog_5_method_9_code 2 = .ok (.putfield 49, 3) := by decide +kernel
theorem d_Request_fail_5 : decode prog_5_method_9_code 5 = .ok (.aload_n 0, 1) := by decide +kernel
theorem d_Request_fail_6 : decode prog_5_method_9_code 6 = .ok (.getfield 58, 3) := by decide +kernel
theorem d_Request_fail_9 : decode prog_5_method_9_code 9 = .ok (.ifCond .eq (18), 3) := by decide +kernel
theorem d_Request_fail_12 : decode prog_5_method_9_code 12 = .ok (.aload_n 0, 1) := by decide +kernel
theorem d_Request_fail_13 : decode prog_5_method_9_code 13 = .ok (.iconst 1, 1) := by decide +kernel
theorem d_Request_fail_14 : decode prog_5_method_9_code 14 = .ok (.putfield 46, 3) := by decide +kernel
theorem d_Request_fail_17 : decode prog_5_method_9_code 17 = .ok (.aload_n 0, 1) := by decide +kernel
theorem d_Request_fail_18 : decode prog_5_method_9_code 18 = .ok (.getfield 23, 3) := by decide +kernel
theorem d_Request_fail_21 : decode prog_5_method_9_code 21 = .ok (.invokevirtual 117, 3) := by decide +kernel
theorem d_Request_fail_24 : decode prog_5_method_9_code 24 = .ok (.goto (8), 3) := by decide +kernel
theorem d_Request_fail_27 : decode prog_5_method_9_code 27 = .ok (.aload_n 0, 1) := by decide +kernel
theorem d_Request_fail_28 : decode prog_5_method_9_code 28 = .ok (.iconst 2, 1) := by decide +kernel
theorem d_Request_fail_29 : decode prog_5_method_9_code 29 = .ok (.putfield 46, 3) := by decide +kernel
theorem d_Request_fail_32 : decode prog_5_method_9_code 32 = .ok (.return_, 1) := by decide +kernel
theorem d_Request_joinedSize_0 : decode prog_5_method_10_code 0 = .ok (.aload_n 0, 1) := by decide +kernel
theorem d_Request_joinedSize_1 : decode prog_5_method_10_code 1 = .ok (.getfield 46, 3) := by decide +kernel
theorem d_Request_joinedSize_4 : decode prog_5_method_10_code 4 = .ok (.iconst 1, 1) := by decide +kernel
theorem d_Request_joinedSize_5 : decode prog_5_method_10_code 5 = .ok (.if_icmp .eq (5), 3) := by decide +kernel
theorem d_Request_joinedSize_8 : decode prog_5_method_10_code 8 = .ok (.iconst 0, 1) := by decide +kernel
theorem d_Request_joinedSize_9 : decode prog_5_method_10_code 9 = .ok (.ireturn, 1) := by decide +kernel
theorem d_Request_joinedSize_10 : decode prog_5_method_10_code 10 = .ok (.aload_n 0, 1) := by decide +kernel
theorem d_Request_joinedSize_11 : decode prog_5_method_10_code 11 = .ok (.getfield 49, 3) := by decide +kernel
theorem d_Request_joinedSize_14 : decode prog_5_method_10_code 14 = .ok (.ifCond .eq (11), 3) := by decide +kernel
theorem d_Request_joinedSize_17 : decode prog_5_method_10_code 17 = .ok (.aload_n 0, 1) := by decide +kernel
theorem d_Request_joinedSize_18 : decode prog_5_method_10_code 18 = .ok (.getfield 68, 3) := by decide +kernel
theorem d_Request_joinedSize_21 : decode prog_5_method_10_code 21 = .ok (.getfield 65, 3) := by decide +kernel
theorem d_Request_joinedSize_24 : decode prog_5_method_10_code 24 = .ok (.ireturn, 1) := by decide +kernel
theorem d_Request_joinedSize_25 : decode prog_5_method_10_code 25 = .ok (.iconst 0, 1) := by decide +kernel
theorem d_Request_joinedSize_26 : decode prog_5_method_10_code 26 = .ok (.istore_n 1, 1) := by decide +kernel
theorem d_Request_joinedSize_27 : decode prog_5_method_10_code 27 = .ok (.iconst 0, 1) := by decide +kernel
theorem d_Request_joinedSize_28 : decode prog_5_method_10_code 28 = .ok (.istore_n 2, 1) := by decide +kernel
theorem d_Request_joinedSize_29 : decode prog_5_method_10_code 29 = .ok (.iload_n 2, 1) := by decide +kernel
theorem d_Request_joinedSize_30 : decode prog_5_method_10_code 30 = .ok (.aload_n 0, 1) := by decide +kernel
theorem d_Request_joinedSize_31 : decode prog_5_method_10_code 31 = .ok (.getfield 68, 3) := by decide +kernel
theorem d_Request_joinedSize_34 : decode prog_5_method_10_code 34 = .ok (.getfield 65, 3) := by decide +kernel
theorem d_Request_joinedSize_37 : decode prog_5_method_10_code 37 = .ok (.if_icmp .ge (50), 3) := by decide +kernel
theorem d_Request_joinedSize_40 : decode prog_5_method_10_code 40 = .ok (.iconst 0, 1) := by decide +kernel
theorem d_Request_joinedSize_41 : decode prog_5_method_10_code 41 = .ok (.istore_n 3, 1) := by decide +kernel
theorem d_Request_joinedSize_42 : decode prog_5_method_10_code 42 = .ok (.iload_n 3, 1) := by decide +kernel
theorem d_Request_joinedSize_43 : decode prog_5_method_10_code 43 = .ok (.aload_n 0, 1) := by decide +kernel
theorem d_Request_joinedSize_44 : decode prog_5_method_10_code 44 = .ok (.getfield 23, 3) := by decide +kernel
theorem d_Request_joinedSize_47 : decode prog_5_method_10_code 47 = .ok (.getfield 65, 3) := by decide +kernel
theorem d_Request_joinedSize_50 : decode prog_5_method_10_code 50 = .ok (.if_icmp .ge (31), 3) := by decide +kernel
theorem d_Request_joinedSize_53 : decode prog_5_method_10_code 53 = .ok (.aload_n 0, 1) := by decide +kernel
theorem d_Request_joinedSize_54 : decode prog_5_method_10_code 54 = .ok (.getfield 23, 3) := by decide +kernel
theorem d_Request_joinedSize_57 : decode prog_5_method_10_code 57 = .ok (.iload_n 3, 1) := by decide +kernel
theorem d_Request_joinedSize_58 : decode prog_5_method_10_code 58 = .ok (.invokevirtual 81, 3) := by decide +kernel
theorem d_Request_joinedSize_61 : decode prog_5_method_10_code 61 = .ok (.aload_n 0, 1) := by decide +kernel
theorem d_Request_joinedSize_62 : decode prog_5_method_10_code 62 = .ok (.getfield 68, 3) := by decide +kernel
theorem d_Request_joinedSize_65 : decode prog_5_method_10_code 65 = .ok (.iload_n 2, 1) := by decide +kernel
theorem d_Request_joinedSize_66 : decode prog_5_method_10_code 66 = .ok (.invokevirtual 81, 3) := by decide +kernel
theorem d_Request_joinedSize_69 : decode prog_5_method_10_code 69 = .ok (.if_icmp .ne (6), 3) := by decide +kernel
theorem d_Request_joinedSize_72 : decode prog_5_method_10_code 72 = .ok (.iinc 1 1, 3) := by decide +kernel
theorem d_Request_joinedSize_75 : decode prog_5_method_10_code 75 = .ok (.iinc 3 1, 3) := by decide +kernel
theorem d_Request_joinedSize_78 : decode prog_5_method_10_code 78 = .ok (.goto (-36), 3) := by decide +kernel
theorem d_Request_joinedSize_81 : decode prog_5_method_10_code 81 = .ok (.iinc 2 1, 3) := by decide +kernel
theorem d_Request_joinedSize_84 : decode prog_5_method_10_code 84 = .ok (.goto (-55), 3) := by decide +kernel
theorem d_Request_joinedSize_87 : decode prog_5_method_10_code 87 = .ok (.iload_n 1, 1) := by decide +kernel
theorem d_Request_joinedSize_88 : decode prog_5_method_10_code 88 = .ok (.ireturn, 1) := by decide +kernel
theorem d_Request_silentPart_0 : decode prog_5_method_12_code 0 = .ok (.iload_n 1, 1) := by decide +kernel
theorem d_Request_silentPart_1 : decode prog_5_method_12_code 1 = .ok (.ifCond .lt (14), 3) := by decide +kernel
theorem d_Request_silentPart_4 : decode prog_5_method_12_code 4 = .ok (.iload_n 1, 1) := by decide +kernel
theorem d_Request_silentPart_5 : decode prog_5_method_12_code 5 = .ok (.aload_n 0, 1) := by decide +kernel
theorem d_Request_silentPart_6 : decode prog_5_method_12_code 6 = .ok (.getfield 68, 3) := by decide +kernel
theorem d_Request_silentPart_9 : decode prog_5_method_12_code 9 = .ok (.getfield 65, 3) := by decide +kernel
theorem d_Request_silentPart_12 : decode prog_5_method_12_code 12 = .ok (.if_icmp .lt (6), 3) := by decide +kernel
theorem d_Request_silentPart_15 : decode prog_5_method_12_code 15 = .ok (.bipush (-2), 2) := by decide +kernel
theorem d_Request_silentPart_17 : decode prog_5_method_12_code 17 = .ok (.ireturn, 1) := by decide +kernel
theorem d_Request_silentPart_18 : decode prog_5_method_12_code 18 = .ok (.iload_n 2, 1) := by decide +kernel
theorem d_Request_silentPart_19 : decode prog_5_method_12_code 19 = .ok (.ifCond .eq (14), 3) := by decide +kernel
theorem d_Request_silentPart_22 : decode prog_5_method_12_code 22 = .ok (.aload_n 0, 1) := by decide +kernel
theorem d_Request_silentPart_23 : decode prog_5_method_12_code 23 = .ok (.getfield 68, 3) := by decide +kernel
theorem d_Request_silentPart_26 : decode prog_5_method_12_code 26 = .ok (.iload_n 1, 1) := by decide +kernel
theorem d_Request_silentPart_27 : decode prog_5_method_12_code 27 = .ok (.invokevirtual 85, 3) := by decide +kernel
theorem d_Request_silentPart_30 : decode prog_5_method_12_code 30 = .ok (.goto (4), 3) := by decide +kernel
theorem d_Request_silentPart_33 : decode prog_5_method_12_code 33 = .ok (.iconst (-1), 1) := by decide +kernel
theorem d_Request_silentPart_34 : decode prog_5_method_12_code 34 = .ok (.ireturn, 1) := by decide +kernel
theorem d_Request_joinedPart_0 : decode prog_5_method_11_code 0 = .ok (.aload_n 0, 1) := by decide +kernel
theorem d_Request_joinedPart_1 : decode prog_5_method_11_code 1 = .ok (.getfield 49, 3) := by decide +kernel
theorem d_Request_joinedPart_4 : decode prog_5_method_11_code 4 = .ok (.ifCond .eq (10), 3) := by decide +kernel
theorem d_Request_joinedPart_7 : decode prog_5_method_11_code 7 = .ok (.aload_n 0, 1) := by decide +kernel
theorem d_Request_joinedPart_8 : decode prog_5_method_11_code 8 = .ok (.iload_n 1, 1) := by decide +kernel
theorem d_Request_joinedPart_9 : decode prog_5_method_11_code 9 = .ok (.iload_n 2, 1) := by decide +kernel
theorem d_Request_joinedPart_10 : decode prog_5_method_11_code 10 = .ok (.invokevirtual 120, 3) := by decide +kernel
theorem d_Request_joinedPart_13 : decode prog_5_method_11_code 13 = .ok (.ireturn, 1) := by decide +kernel
theorem d_Request_joinedPart_14 : decode prog_5_method_11_code 14 = .ok (.iconst 0, 1) := by decide +kernel
theorem d_Request_joinedPart_15 : decode prog_5_method_11_code 15 = .ok (.istore_n 3, 1) := by decide +kernel
theorem d_Request_joinedPart_16 : decode prog_5_method_11_code 16 = .ok (.iconst 0, 1) := by decide +kernel
theorem d_Request_joinedPart_17 : decode prog_5_method_11_code 17 = .ok (.istore 4, 2) := by decide +kernel
theorem d_Request_joinedPart_19 : decode prog_5_method_11_code 19 = .ok (.iload 4, 2) := by decide +kernel
theorem d_Request_joinedPart_21 : decode prog_5_method_11_code 21 = .ok (.aload_n 0, 1) := by decide +kernel
theorem d_Request_joinedPart_22 : decode prog_5_method_11_code 22 = .ok (.getfield 68, 3) := by decide +kernel
theorem d_Request_joinedPart_25 : decode prog_5_method_11_code 25 = .ok (.getfield 65, 3) := by decide +kernel
theorem d_Request_joinedPart_28 : decode prog_5_method_11_code 28 = .ok (.if_icmp .ge (88), 3) := by decide +kernel
theorem d_Request_joinedPart_31 : decode prog_5_method_11_code 31 = .ok (.iconst 0, 1) := by decide +kernel
theorem d_Request_joinedPart_32 : decode prog_5_method_11_code 32 = .ok (.istore 5, 2) := by decide +kernel
theorem d_Request_joinedPart_34 : decode prog_5_method_11_code 34 = .ok (.iload 5, 2) := by decide +kernel
theorem d_Request_joinedPart_36 : decode prog_5_method_11_code 36 = .ok (.aload_n 0, 1) := by decide +kernel
theorem d_Request_joinedPart_37 : decode prog_5_method_11_code 37 = .ok (.getfield 23, 3) := by decide +kernel
theorem d_Request_joinedPart_40 : decode prog_5_method_11_code 40 = .ok (.getfield 65, 3) := by decide +kernel
theorem d_Request_joinedPart_43 : decode prog_5_method_11_code 43 = .ok (.if_icmp .ge (67), 3) := by decide +kernel
theorem d_Request_joinedPart_46 : decode prog_5_method_11_code 46 = .ok (.aload_n 0, 1) := by decide +kernel
theorem d_Request_joinedPart_47 : decode prog_5_method_11_code 47 = .ok (.getfield 23, 3) := by decide +kernel
theorem d_Request_joinedPart_50 : decode prog_5_method_11_code 50 = .ok (.iload 5, 2) := by decide +kernel
theorem d_Request_joinedPart_52 : decode prog_5_method_11_code 52 = .ok (.invokevirtual 81, 3) := by decide +kernel
theorem d_Request_joinedPart_55 : decode prog_5_method_11_code 55 = .ok (.aload_n 0, 1) := by decide +kernel
theorem d_Request_joinedPart_56 : decode prog_5_method_11_code 56 = .ok (.getfield 68, 3) := by decide +kernel
theorem d_Request_joinedPart_59 : decode prog_5_method_11_code 59 = .ok (.iload 4, 2) := by decide +kernel
theorem d_Request_joinedPart_61 : decode prog_5_method_11_code 61 = .ok (.invokevirtual 81, 3) := by decide +kernel
theorem d_Request_joinedPart_64 : decode prog_5_method_11_code 64 = .ok (.if_icmp .eq (6), 3) := by decide +kernel
theorem d_Request_joinedPart_67 : decode prog_5_method_11_code 67 = .ok (.goto (37), 3) := by decide +kernel
theorem d_Request_joinedPart_70 : decode prog_5_method_11_code 70 = .ok (.iload_n 3, 1) := by decide +kernel
theorem d_Request_joinedPart_71 : decode prog_5_method_11_code 71 = .ok (.iload_n 1, 1) := by decide +kernel
theorem d_Request_joinedPart_72 : decode prog_5_method_11_code 72 = .ok (.if_icmp .ne (29), 3) := by decide +kernel
theorem d_Request_joinedPart_75 : decode prog_5_method_11_code 75 = .ok (.iload_n 2, 1) := by decide +kernel
theorem d_Request_joinedPart_76 : decode prog_5_method_11_code 76 = .ok (.ifCond .eq (15), 3) := by decide +kernel
theorem d_Request_joinedPart_79 : decode prog_5_method_11_code 79 = .ok (.aload_n 0, 1) := by decide +kernel
theorem d_Request_joinedPart_80 : decode prog_5_method_11_code 80 = .ok (.getfield 68, 3) := by decide +kernel
theorem d_Request_joinedPart_83 : decode prog_5_method_11_code 83 = .ok (.iload 4, 2) := by decide +kernel
theorem d_Request_joinedPart_85 : decode prog_5_method_11_code 85 = .ok (.invokevirtual 85, 3) := by decide +kernel
theorem d_Request_joinedPart_88 : decode prog_5_method_11_code 88 = .ok (.goto (12), 3) := by decide +kernel
theorem d_Request_joinedPart_91 : decode prog_5_method_11_code 91 = .ok (.aload_n 0, 1) := by decide +kernel
theorem d_Request_joinedPart_92 : decode prog_5_method_11_code 92 = .ok (.getfield 23, 3) := by decide +kernel
theorem d_Request_joinedPart_95 : decode prog_5_method_11_code 95 = .ok (.iload 5, 2) := by decide +kernel
theorem d_Request_joinedPart_97 : decode prog_5_method_11_code 97 = .ok (.invokevirtual 85, 3) := by decide +kernel
theorem d_Request_joinedPart_100 : decode prog_5_method_11_code 100 = .ok (.ireturn, 1) := by decide +kernel
theorem d_Request_joinedPart_101 : decode prog_5_method_11_code 101 = .ok (.iinc 3 1, 3) := by decide +kernel
theorem d_Request_joinedPart_104 : decode prog_5_method_11_code 104 = .ok (.iinc 5 1, 3) := by decide +kernel
theorem d_Request_joinedPart_107 : decode prog_5_method_11_code 107 = .ok (.goto (-73), 3) := by decide +kernel
theorem d_Request_joinedPart_110 : decode prog_5_method_11_code 110 = .ok (.iinc 4 1, 3) := by decide +kernel
theorem d_Request_joinedPart_113 : decode prog_5_method_11_code 113 = .ok (.goto (-94), 3) := by decide +kernel
theorem d_Request_joinedPart_116 : decode prog_5_method_11_code 116 = .ok (.bipush (-2), 2) := by decide +kernel
theorem d_Request_joinedPart_118 : decode prog_5_method_11_code 118 = .ok (.ireturn, 1) := by decide +kernel
theorem d_ServingEnd_init_0 : decode prog_6_method_1_code 0 = .ok (.aload_n 0, 1) := by decide +kernel
theorem d_ServingEnd_init_1 : decode prog_6_method_1_code 1 = .ok (.invokespecial 3, 3) := by decide +kernel
theorem d_ServingEnd_init_4 : decode prog_6_method_1_code 4 = .ok (.aload_n 0, 1) := by decide +kernel
theorem d_ServingEnd_init_5 : decode prog_6_method_1_code 5 = .ok (.new 9, 3) := by decide +kernel
theorem d_ServingEnd_init_8 : decode prog_6_method_1_code 8 = .ok (.dup, 1) := by decide +kernel
theorem d_ServingEnd_init_9 : decode prog_6_method_1_code 9 = .ok (.bipush 60, 2) := by decide +kernel
theorem d_ServingEnd_init_11 : decode prog_6_method_1_code 11 = .ok (.invokespecial 11, 3) := by decide +kernel
theorem d_ServingEnd_init_14 : decode prog_6_method_1_code 14 = .ok (.putfield 14, 3) := by decide +kernel
theorem d_ServingEnd_init_17 : decode prog_6_method_1_code 17 = .ok (.aload_n 0, 1) := by decide +kernel
theorem d_ServingEnd_init_18 : decode prog_6_method_1_code 18 = .ok (.bipush 8, 2) := by decide +kernel
theorem d_ServingEnd_init_20 : decode prog_6_method_1_code 20 = .ok (.anewarray 20, 3) := by decide +kernel
theorem d_ServingEnd_init_23 : decode prog_6_method_1_code 23 = .ok (.putfield 22, 3) := by decide +kernel
theorem d_ServingEnd_init_26 : decode prog_6_method_1_code 26 = .ok (.aload_n 0, 1) := by decide +kernel
theorem d_ServingEnd_init_27 : decode prog_6_method_1_code 27 = .ok (.iconst 0, 1) := by decide +kernel
theorem d_ServingEnd_init_28 : decode prog_6_method_1_code 28 = .ok (.putfield 26, 3) := by decide +kernel
theorem d_ServingEnd_init_31 : decode prog_6_method_1_code 31 = .ok (.aload_n 0, 1) := by decide +kernel
theorem d_ServingEnd_init_32 : decode prog_6_method_1_code 32 = .ok (.iconst 0, 1) := by decide +kernel
theorem d_ServingEnd_init_33 : decode prog_6_method_1_code 33 = .ok (.putfield 30, 3) := by decide +kernel
theorem d_ServingEnd_init_36 : decode prog_6_method_1_code 36 = .ok (.aload_n 0, 1) := by decide +kernel
theorem d_ServingEnd_init_37 : decode prog_6_method_1_code 37 = .ok (.new 33, 3) := by decide +kernel
theorem d_ServingEnd_init_40 : decode prog_6_method_1_code 40 = .ok (.dup, 1) := by decide +kernel
theorem d_ServingEnd_init_41 : decode prog_6_method_1_code 41 = .ok (.invokespecial 35, 3) := by decide +kernel
theorem d_ServingEnd_init_44 : decode prog_6_method_1_code 44 = .ok (.putfield 36, 3) := by decide +kernel
theorem d_ServingEnd_init_47 : decode prog_6_method_1_code 47 = .ok (.iconst 0, 1) := by decide +kernel
theorem d_ServingEnd_init_48 : decode prog_6_method_1_code 48 = .ok (.istore_n 1, 1) := by decide +kernel
theorem d_ServingEnd_init_49 : decode prog_6_method_1_code 49 = .ok (.iload_n 1, 1) := by decide +kernel
theorem d_ServingEnd_init_50 : decode prog_6_method_1_code 50 = .ok (.bipush 8, 2) := by decide +kernel
theorem d_ServingEnd_init_52 : decode prog_6_method_1_code 52 = .ok (.if_icmp .ge (22), 3) := by decide +kernel
theorem d_ServingEnd_init_55 : decode prog_6_method_1_code 55 = .ok (.aload_n 0, 1) := by decide +kernel
theorem d_ServingEnd_init_56 : decode prog_6_method_1_code 56 = .ok (.getfield 22, 3) := by decide +kernel
theorem d_ServingEnd_init_59 : decode prog_6_method_1_code 59 = .ok (.iload_n 1, 1) := by decide +kernel
theorem d_ServingEnd_init_60 : decode prog_6_method_1_code 60 = .ok (.new 20, 3) := by decide +kernel
theorem d_ServingEnd_init_63 : decode prog_6_method_1_code 63 = .ok (.dup, 1) := by decide +kernel
theorem d_ServingEnd_init_64 : decode prog_6_method_1_code 64 = .ok (.invokespecial 40, 3) := by decide +kernel
theorem d_ServingEnd_init_67 : decode prog_6_method_1_code 67 = .ok (.aastore, 1) := by decide +kernel
theorem d_ServingEnd_init_68 : decode prog_6_method_1_code 68 = .ok (.iinc 1 1, 3) := by decide +kernel
theorem d_ServingEnd_init_71 : decode prog_6_method_1_code 71 = .ok (.goto (-22), 3) := by decide +kernel
theorem d_ServingEnd_init_74 : decode prog_6_method_1_code 74 = .ok (.return_, 1) := by decide +kernel
theorem d_ServingEnd_memoryAt_0 : decode prog_6_method_4_code 0 = .ok (.iload_n 1, 1) := by decide +kernel
theorem d_ServingEnd_memoryAt_1 : decode prog_6_method_4_code 1 = .ok (.ifCond .lt (29), 3) := by decide +kernel
theorem d_ServingEnd_memoryAt_4 : decode prog_6_method_4_code 4 = .ok (.iload_n 1, 1) := by decide +kernel
theorem d_ServingEnd_memoryAt_5 : decode prog_6_method_4_code 5 = .ok (.aload_n 0, 1) := by decide +kernel
theorem d_ServingEnd_memoryAt_6 : decode prog_6_method_4_code 6 = .ok (.getfield 26, 3) := by decide +kernel
theorem d_ServingEnd_memoryAt_9 : decode prog_6_method_4_code 9 = .ok (.if_icmp .ge (21), 3) := by decide +kernel
theorem d_ServingEnd_memoryAt_12 : decode prog_6_method_4_code 12 = .ok (.iload_n 1, 1) := by decide +kernel
theorem d_ServingEnd_memoryAt_13 : decode prog_6_method_4_code 13 = .ok (.aload_n 0, 1) := by decide +kernel
theorem d_ServingEnd_memoryAt_14 : decode prog_6_method_4_code 14 = .ok (.getfield 22, 3) := by decide +kernel
theorem d_ServingEnd_memoryAt_17 : decode prog_6_method_4_code 17 = .ok (.arraylength, 1) := by decide +kernel
theorem d_ServingEnd_memoryAt_18 : decode prog_6_method_4_code 18 = .ok (.if_icmp .ge (12), 3) := by decide +kernel
theorem d_ServingEnd_memoryAt_21 : decode prog_6_method_4_code 21 = .ok (.aload_n 0, 1) := by decide +kernel
theorem d_ServingEnd_memoryAt_22 : decode prog_6_method_4_code 22 = .ok (.getfield 22, 3) := by decide +kernel
theorem d_ServingEnd_memoryAt_25 : decode prog_6_method_4_code 25 = .ok (.iload_n 1, 1) := by decide +kernel
theorem d_ServingEnd_memoryAt_26 : decode prog_6_method_4_code 26 = .ok (.aaload, 1) := by decide +kernel
theorem d_ServingEnd_memoryAt_27 : decode prog_6_method_4_code 27 = .ok (.goto (4), 3) := by decide +kernel
theorem d_ServingEnd_memoryAt_30 : decode prog_6_method_4_code 30 = .ok (.aconst_null, 1) := by decide +kernel
theorem d_ServingEnd_memoryAt_31 : decode prog_6_method_4_code 31 = .ok (.areturn, 1) := by decide +kernel
theorem d_ServingEnd_placeOf_0 : decode prog_6_method_5_code 0 = .ok (.iconst 0, 1) := by decide +kernel
theorem d_ServingEnd_placeOf_1 : decode prog_6_method_5_code 1 = .ok (.istore_n 2, 1) := by decide +kernel
theorem d_ServingEnd_placeOf_2 : decode prog_6_method_5_code 2 = .ok (.iload_n 2, 1) := by decide +kernel
theorem d_ServingEnd_placeOf_3 : decode prog_6_method_5_code 3 = .ok (.aload_n 0, 1) := by decide +kernel
theorem d_ServingEnd_placeOf_4 : decode prog_6_method_5_code 4 = .ok (.getfield 26, 3) := by decide +kernel
theorem d_ServingEnd_placeOf_7 : decode prog_6_method_5_code 7 = .ok (.if_icmp .ge (29), 3) := by decide +kernel
theorem d_ServingEnd_placeOf_10 : decode prog_6_method_5_code 10 = .ok (.aload_n 0, 1) := by decide +kernel
theorem d_ServingEnd_placeOf_11 : decode prog_6_method_5_code 11 = .ok (.iload_n 2, 1) := by decide +kernel
theorem d_ServingEnd_placeOf_12 : decode prog_6_method_5_code 12 = .ok (.invokevirtual 48, 3) := by decide +kernel
theorem d_ServingEnd_placeOf_15 : decode prog_6_method_5_code 15 = .ok (.astore_n 3, 1) := by decide +kernel
theorem d_ServingEnd_placeOf_16 : decode prog_6_method_5_code 16 = .ok (.aload_n 3, 1) := by decide +kernel
theorem d_ServingEnd_placeOf_17 : decode prog_6_method_5_code 17 = .ok (.ifnull (13), 3) := by decide +kernel
theorem d_ServingEnd_placeOf_20 : decode prog_6_method_5_code 20 = .ok (.aload_n 3, 1) := by decide +kernel
theorem d_ServingEnd_placeOf_21 : decode prog_6_method_5_code 21 = .ok (.getfield 85, 3) := by decide +kernel
theorem d_ServingEnd_placeOf_24 : decode prog_6_method_5_code 24 = .ok (.iload_n 1, 1) := by decide +kernel
theorem d_ServingEnd_placeOf_25 : decode prog_6_method_5_code 25 = .ok (.if_icmp .ne (5), 3) := by decide +kernel
theorem d_ServingEnd_placeOf_28 : decode prog_6_method_5_code 28 = .ok (.iload_n 2, 1) := by decide +kernel
theorem d_ServingEnd_placeOf_29 : decode prog_6_method_5_code 29 = .ok (.ireturn, 1) := by decide +kernel
theorem d_ServingEnd_placeOf_30 : decode prog_6_method_5_code 30 = .ok (.iinc 2 1, 3) := by decide +kernel
theorem d_ServingEnd_placeOf_33 : decode prog_6_method_5_code 33 = .ok (.goto (-31), 3) := by decide +kernel
theorem d_ServingEnd_placeOf_36 : decode prog_6_method_5_code 36 = .ok (.bipush (-2), 2) := by decide +kernel
theorem d_ServingEnd_placeOf_38 : decode prog_6_method_5_code 38 = .ok (.ireturn, 1) := by decide +kernel
theorem d_ServingEnd_memoryFor_0 : decode prog_6_method_6_code 0 = .ok (.aload_n 0, 1) := by decide +kernel
theorem d_ServingEnd_memoryFor_1 : decode prog_6_method_6_code 1 = .ok (.iload_n 1, 1) := by decide +kernel
theorem d_ServingEnd_memoryFor_2 : decode prog_6_method_6_code 2 = .ok (.invokevirtual 44, 3) := by decide +kernel
theorem d_ServingEnd_memoryFor_5 : decode prog_6_method_6_code 5 = .ok (.istore_n 2, 1) := by decide +kernel
theorem d_ServingEnd_memoryFor_6 : decode prog_6_method_6_code 6 = .ok (.iload_n 2, 1) := by decide +kernel
theorem d_ServingEnd_memoryFor_7 : decode prog_6_method_6_code 7 = .ok (.ifCond .ge (29), 3) := by decide +kernel
theorem d_ServingEnd_memoryFor_10 : decode prog_6_method_6_code 10 = .ok (.iconst 0, 1) := by decide +kernel
theorem d_ServingEnd_memoryFor_11 : decode prog_6_method_6_code 11 = .ok (.istore_n 2, 1) := by decide +kernel
theorem d_ServingEnd_memoryFor_12 : decode prog_6_method_6_code 12 = .ok (.aload_n 0, 1) := by decide +kernel
theorem d_ServingEnd_memoryFor_13 : decode prog_6_method_6_code 13 = .ok (.getfield 26, 3) := by decide +kernel
theorem d_ServingEnd_memoryFor_16 : decode prog_6_method_6_code 16 = .ok (.bipush 8, 2) := by decide +kernel
theorem d_ServingEnd_memoryFor_18 : decode prog_6_method_6_code 18 = .ok (.if_icmp .ge (18), 3) := by decide +kernel
theorem d_ServingEnd_memoryFor_21 : decode prog_6_method_6_code 21 = .ok (.aload_n 0, 1) := by decide +kernel
theorem d_ServingEnd_memoryFor_22 : decode prog_6_method_6_code 22 = .ok (.getfield 26, 3) := by decide +kernel
theorem d_ServingEnd_memoryFor_25 : decode prog_6_method_6_code 25 = .ok (.istore_n 2, 1) := by decide +kernel
theorem d_ServingEnd_memoryFor_26 : decode prog_6_method_6_code 26 = .ok (.aload_n 0, 1) := by decide +kernel
theorem d_ServingEnd_memoryFor_27 : decode prog_6_method_6_code 27 = .ok (.dup, 1) := by decide +kernel
theorem d_ServingEnd_memoryFor_28 : decode prog_6_method_6_code 28 = .ok (.getfield 26, 3) := by decide +kernel
theorem d_ServingEnd_memoryFor_31 : decode prog_6_method_6_code 31 = .ok (.iconst 1, 1) := by decide +kernel
theorem d_ServingEnd_memoryFor_32 : decode prog_6_method_6_code 32 = .ok (.iadd, 1) := by decide +kernel
theorem d_ServingEnd_memoryFor_33 : decode prog_6_method_6_code 33 = .ok (.putfield 26, 3) := by decide +kernel
theorem d_ServingEnd_memoryFor_36 : decode prog_6_method_6_code 36 = .ok (.aload_n 0, 1) := by decide +kernel
theorem d_ServingEnd_memoryFor_37 : decode prog_6_method_6_code 37 = .ok (.iload_n 2, 1) := by decide +kernel
theorem d_ServingEnd_memoryFor_38 : decode prog_6_method_6_code 38 = .ok (.invokevirtual 48, 3) := by decide +kernel
theorem d_ServingEnd_memoryFor_41 : decode prog_6_method_6_code 41 = .ok (.astore_n 3, 1) := by decide +kernel
theorem d_ServingEnd_memoryFor_42 : decode prog_6_method_6_code 42 = .ok (.iload_n 2, 1) := by decide +kernel
theorem d_ServingEnd_memoryFor_43 : decode prog_6_method_6_code 43 = .ok (.istore 4, 2) := by decide +kernel
theorem d_ServingEnd_memoryFor_45 : decode prog_6_method_6_code 45 = .ok (.iload 4, 2) := by decide +kernel
theorem d_ServingEnd_memoryFor_47 : decode prog_6_method_6_code 47 = .ok (.iconst 1, 1) := by decide +kernel
theorem d_ServingEnd_memoryFor_48 : decode prog_6_method_6_code 48 = .ok (.iadd, 1) := by decide +kernel
theorem d_ServingEnd_memoryFor_49 : decode prog_6_method_6_code 49 = .ok (.aload_n 0, 1) := by decide +kernel
theorem d_ServingEnd_memoryFor_50 : decode prog_6_method_6_code 50 = .ok (.getfield 26, 3) := by decide +kernel
theorem d_ServingEnd_memoryFor_53 : decode prog_6_method_6_code 53 = .ok (.if_icmp .ge (37), 3) := by decide +kernel
theorem d_ServingEnd_memoryFor_56 : decode prog_6_method_6_code 56 = .ok (.iload 4, 2) := by decide +kernel
theorem d_ServingEnd_memoryFor_58 : decode prog_6_method_6_code 58 = .ok (.iconst 1, 1) := by decide +kernel
theorem d_ServingEnd_memoryFor_59 : decode prog_6_method_6_code 59 = .ok (.iadd, 1) := by decide +kernel
theorem d_ServingEnd_memoryFor_60 : decode prog_6_method_6_code 60 = .ok (.aload_n 0, 1) := by decide +kernel
theorem d_ServingEnd_memoryFor_61 : decode prog_6_method_6_code 61 = .ok (.getfield 22, 3) := by decide +kernel
theorem d_ServingEnd_memoryFor_64 : decode prog_6_method_6_code 64 = .ok (.arraylength, 1) := by decide +kernel
theorem d_ServingEnd_memoryFor_65 : decode prog_6_method_6_code 65 = .ok (.if_icmp .ge (25), 3) := by decide +kernel
theorem d_ServingEnd_memoryFor_68 : decode prog_6_method_6_code 68 = .ok (.aload_n 0, 1) := by decide +kernel
theorem d_ServingEnd_memoryFor_69 : decode prog_6_method_6_code 69 = .ok (.getfield 22, 3) := by decide +kernel
theorem d_ServingEnd_memoryFor_72 : decode prog_6_method_6_code 72 = .ok (.iload 4, 2) := by decide +kernel
theorem d_ServingEnd_memoryFor_74 : decode prog_6_method_6_code 74 = .ok (.aload_n 0, 1) := by decide +kernel
theorem d_ServingEnd_memoryFor_75 : decode prog_6_method_6_code 75 = .ok (.getfield 22, 3) := by decide +kernel
theorem d_ServingEnd_memoryFor_78 : decode prog_6_method_6_code 78 = .ok (.iload 4, 2) := by decide +kernel
theorem d_ServingEnd_memoryFor_80 : decode prog_6_method_6_code 80 = .ok (.iconst 1, 1) := by decide +kernel
theorem d_ServingEnd_memoryFor_81 : decode prog_6_method_6_code 81 = .ok (.iadd, 1) := by decide +kernel
theorem d_ServingEnd_memoryFor_82 : decode prog_6_method_6_code 82 = .ok (.aaload, 1) := by decide +kernel
theorem d_ServingEnd_memoryFor_83 : decode prog_6_method_6_code 83 = .ok (.aastore, 1) := by decide +kernel
theorem d_ServingEnd_memoryFor_84 : decode prog_6_method_6_code 84 = .ok (.iinc 4 1, 3) := by decide +kernel
theorem d_ServingEnd_memoryFor_87 : decode prog_6_method_6_code 87 = .ok (.goto (-42), 3) := by decide +kernel
theorem d_ServingEnd_memoryFor_90 : decode prog_6_method_6_code 90 = .ok (.aload_n 0, 1) := by decide +kernel
theorem d_ServingEnd_memoryFor_91 : decode prog_6_method_6_code 91 = .ok (.getfield 26, 3) := by decide +kernel
theorem d_ServingEnd_memoryFor_94 : decode prog_6_method_6_code 94 = .ok (.iconst 1, 1) := by decide +kernel
theorem d_ServingEnd_memoryFor_95 : decode prog_6_method_6_code 95 = .ok (.isub, 1) := by decide +kernel
theorem d_ServingEnd_memoryFor_96 : decode prog_6_method_6_code 96 = .ok (.istore 4, 2) := by decide +kernel
theorem d_ServingEnd_memoryFor_98 : decode prog_6_method_6_code 98 = .ok (.iload 4, 2) := by decide +kernel
theorem d_ServingEnd_memoryFor_100 : decode prog_6_method_6_code 100 = .ok (.ifCond .lt (21), 3) := by decide +kernel
theorem d_ServingEnd_memoryFor_103 : decode prog_6_method_6_code 103 = .ok (.iload 4, 2) := by decide +kernel
theorem d_ServingEnd_memoryFor_105 : decode prog_6_method_6_code 105 = .ok (.aload_n 0, 1) := by decide +kernel
theorem d_ServingEnd_memoryFor_106 : decode prog_6_method_6_code 106 = .ok (.getfield 22, 3) := by decide +kernel
theorem d_ServingEnd_memoryFor_109 : decode prog_6_method_6_code 109 = .ok (.arraylength, 1) := by decide +kernel
theorem d_ServingEnd_memoryFor_110 : decode prog_6_method_6_code 110 = .ok (.if_icmp .ge (11), 3) := by decide +kernel
theorem d_ServingEnd_memoryFor_113 : decode prog_6_method_6_code 113 = .ok (.aload_n 0, 1) := by decide +kernel
theorem d_ServingEnd_memoryFor_114 : decode prog_6_method_6_code 114 = .ok (.getfield 22, 3) := by decide +kernel
theorem d_ServingEnd_memoryFor_117 : decode prog_6_method_6_code 117 = .ok (.iload 4, 2) := by decide +kernel
theorem d_ServingEnd_memoryFor_119 : decode prog_6_method_6_code 119 = .ok (.aload_n 3, 1) := by decide +kernel
theorem d_ServingEnd_memoryFor_120 : decode prog_6_method_6_code 120 = .ok (.aastore, 1) := by decide +kernel
theorem d_ServingEnd_memoryFor_121 : decode prog_6_method_6_code 121 = .ok (.aload_n 3, 1) := by decide +kernel
theorem d_ServingEnd_memoryFor_122 : decode prog_6_method_6_code 122 = .ok (.areturn, 1) := by decide +kernel
theorem d_ServingEnd_remember_0 : decode prog_6_method_7_code 0 = .ok (.aload_n 1, 1) := by decide +kernel
theorem d_ServingEnd_remember_1 : decode prog_6_method_7_code 1 = .ok (.ifnonnull (4), 3) := by decide +kernel
theorem d_ServingEnd_remember_4 : decode prog_6_method_7_code 4 = .ok (.return_, 1) := by decide +kernel
theorem d_ServingEnd_remember_5 : decode prog_6_method_7_code 5 = .ok (.aload_n 1, 1) := by decide +kernel
theorem d_ServingEnd_remember_6 : decode prog_6_method_7_code 6 = .ok (.aload_n 2, 1) := by decide +kernel
theorem d_ServingEnd_remember_7 : decode prog_6_method_7_code 7 = .ok (.getfield 41, 3) := by decide +kernel
theorem d_ServingEnd_remember_10 : decode prog_6_method_7_code 10 = .ok (.putfield 85, 3) := by decide +kernel
theorem d_ServingEnd_remember_13 : decode prog_6_method_7_code 13 = .ok (.aload_n 1, 1) := by decide +kernel
theorem d_ServingEnd_remember_14 : decode prog_6_method_7_code 14 = .ok (.aload_n 2, 1) := by decide +kernel
theorem d_ServingEnd_remember_15 : decode prog_6_method_7_code 15 = .ok (.iconst 0, 1) := by decide +kernel
theorem d_ServingEnd_remember_16 : decode prog_6_method_7_code 16 = .ok (.invokevirtual 55, 3) := by decide +kernel
theorem d_ServingEnd_remember_19 : decode prog_6_method_7_code 19 = .ok (.putfield 52, 3) := by decide +kernel
theorem d_ServingEnd_remember_22 : decode prog_6_method_7_code 22 = .ok (.aload_n 1, 1) := by decide +kernel
theorem d_ServingEnd_remember_23 : decode prog_6_method_7_code 23 = .ok (.aload_n 1, 1) := by decide +kernel
theorem d_ServingEnd_remember_24 : decode prog_6_method_7_code 24 = .ok (.getfield 52, 3) := by decide +kernel
theorem d_ServingEnd_remember_27 : decode prog_6_method_7_code 27 = .ok (.putfield 75, 3) := by decide +kernel
theorem d_ServingEnd_remember_30 : decode prog_6_method_7_code 30 = .ok (.aload_n 1, 1) := by decide +kernel
theorem d_ServingEnd_remember_31 : decode prog_6_method_7_code 31 = .ok (.getfield 69, 3) := by decide +kernel
theorem d_ServingEnd_remember_34 : decode prog_6_method_7_code 34 = .ok (.invokevirtual 86, 3) := by decide +kernel
theorem d_ServingEnd_remember_37 : decode prog_6_method_7_code 37 = .ok (.iconst 1, 1) := by decide +kernel
theorem d_ServingEnd_remember_38 : decode prog_6_method_7_code 38 = .ok (.istore_n 3, 1) := by decide +kernel
theorem d_ServingEnd_remember_39 : decode prog_6_method_7_code 39 = .ok (.iload_n 3, 1) := by decide +kernel
theorem d_ServingEnd_remember_40 : decode prog_6_method_7_code 40 = .ok (.aload_n 2, 1) := by decide +kernel
theorem d_ServingEnd_remember_41 : decode prog_6_method_7_code 41 = .ok (.getfield 89, 3) := by decide +kernel
theorem d_ServingEnd_remember_44 : decode prog_6_method_7_code 44 = .ok (.if_icmp .ge (73), 3) := by decide +kernel
theorem d_ServingEnd_remember_47 : decode prog_6_method_7_code 47 = .ok (.iconst 0, 1) := by decide +kernel
theorem d_ServingEnd_remember_48 : decode prog_6_method_7_code 48 = .ok (.istore 4, 2) := by decide +kernel
theorem d_ServingEnd_remember_50 : decode prog_6_method_7_code 50 = .ok (.iload 4, 2) := by decide +kernel
theorem d_ServingEnd_remember_52 : decode prog_6_method_7_code 52 = .ok (.aload_n 0, 1) := by decide +kernel
theorem d_ServingEnd_remember_53 : decode prog_6_method_7_code 53 = .ok (.getfield 14, 3) := by decide +kernel
theorem d_ServingEnd_remember_56 : decode prog_6_method_7_code 56 = .ok (.getfield 72, 3) := by decide +kernel
theorem d_ServingEnd_remember_59 : decode prog_6_method_7_code 59 = .ok (.if_icmp .ge (52), 3) := by decide +kernel
theorem d_ServingEnd_remember_62 : decode prog_6_method_7_code 62 = .ok (.aload_n 0, 1) := by decide +kernel
theorem d_ServingEnd_remember_63 : decode prog_6_method_7_code 63 = .ok (.getfield 14, 3) := by decide +kernel
theorem d_ServingEnd_remember_66 : decode prog_6_method_7_code 66 = .ok (.iload 4, 2) := by decide +kernel
theorem d_ServingEnd_remember_68 : decode prog_6_method_7_code 68 = .ok (.invokevirtual 92, 3) := by decide +kernel
theorem d_ServingEnd_remember_71 : decode prog_6_method_7_code 71 = .ok (.aload_n 2, 1) := by decide +kernel
theorem d_ServingEnd_remember_72 : decode prog_6_method_7_code 72 = .ok (.iload_n 3, 1) := by decide +kernel
theorem d_ServingEnd_remember_73 : decode prog_6_method_7_code 73 = .ok (.invokevirtual 55, 3) := by decide +kernel
theorem d_ServingEnd_remember_76 : decode prog_6_method_7_code 76 = .ok (.if_icmp .ne (29), 3) := by decide +kernel
theorem d_ServingEnd_remember_79 : decode prog_6_method_7_code 79 = .ok (.aload_n 1, 1) := by decide +kernel
theorem d_ServingEnd_remember_80 : decode prog_6_method_7_code 80 = .ok (.getfield 69, 3) := by decide +kernel
theorem d_ServingEnd_remember_83 : decode prog_6_method_7_code 83 = .ok (.aload_n 0, 1) := by decide +kernel
theorem d_ServingEnd_remember_84 : decode prog_6_method_7_code 84 = .ok (.getfield 14, 3) := by decide +kernel
theorem d_ServingEnd_remember_87 : decode prog_6_method_7_code 87 = .ok (.iload 4, 2) := by decide +kernel
theorem d_ServingEnd_remember_89 : decode prog_6_method_7_code 89 = .ok (.invokevirtual 92, 3) := by decide +kernel
theorem d_ServingEnd_remember_92 : decode prog_6_method_7_code 92 = .ok (.aload_n 0, 1) := by decide +kernel
theorem d_ServingEnd_remember_93 : decode prog_6_method_7_code 93 = .ok (.getfield 14, 3) := by decide +kernel
theorem d_ServingEnd_remember_96 : decode prog_6_method_7_code 96 = .ok (.iload 4, 2) := by decide +kernel
theorem d_ServingEnd_remember_98 : decode prog_6_method_7_code 98 = .ok (.invokevirtual 95, 3) := by decide +kernel
theorem d_ServingEnd_remember_101 : decode prog_6_method_7_code 101 = .ok (.invokevirtual 98, 3) := by decide +kernel
theorem d_ServingEnd_remember_104 : decode prog_6_method_7_code 104 = .ok (.pop, 1) := by decide +kernel
theorem d_ServingEnd_remember_105 : decode prog_6_method_7_code 105 = .ok (.iinc 4 1, 3) := by decide +kernel
theorem d_ServingEnd_remember_108 : decode prog_6_method_7_code 108 = .ok (.goto (-58), 3) := by decide +kernel
theorem d_ServingEnd_remember_111 : decode prog_6_method_7_code 111 = .ok (.iinc 3 1, 3) := by decide +kernel
theorem d_ServingEnd_remember_114 : decode prog_6_method_7_code 114 = .ok (.goto (-75), 3) := by decide +kernel
theorem d_ServingEnd_remember_117 : decode prog_6_method_7_code 117 = .ok (.return_, 1) := by decide +kernel
theorem d_ServingEnd_writeRows_0 : decode prog_6_method_8_code 0 = .ok (.aload_n 1, 1) := by decide +kernel
theorem d_ServingEnd_writeRows_1 : decode prog_6_method_8_code 1 = .ok (.ifnonnull (4), 3) := by decide +kernel
theorem d_ServingEnd_writeRows_4 : decode prog_6_method_8_code 4 = .ok (.return_, 1) := by decide +kernel
theorem d_ServingEnd_writeRows_5 : decode prog_6_method_8_code 5 = .ok (.iload_n 3, 1) := by decide +kernel
theorem d_ServingEnd_writeRows_6 : decode prog_6_method_8_code 6 = .ok (.bipush 8, 2) := by decide +kernel
theorem d_ServingEnd_writeRows_8 : decode prog_6_method_8_code 8 = .ok (.iadd, 1) := by decide +kernel
theorem d_ServingEnd_writeRows_9 : decode prog_6_method_8_code 9 = .ok (.aload_n 1, 1) := by decide +kernel
theorem d_ServingEnd_writeRows_10 : decode prog_6_method_8_code 10 = .ok (.getfield 69, 3) := by decide +kernel
theorem d_ServingEnd_writeRows_13 : decode prog_6_method_8_code 13 = .ok (.getfield 72, 3) := by decide +kernel
theorem d_ServingEnd_writeRows_16 : decode prog_6_method_8_code 16 = .ok (.invokestatic 102, 3) := by decide +kernel
theorem d_ServingEnd_writeRows_19 : decode prog_6_method_8_code 19 = .ok (.istore 4, 2) := by decide +kernel
theorem d_ServingEnd_writeRows_21 : decode prog_6_method_8_code 21 = .ok (.aload_n 0, 1) := by decide +kernel
theorem d_ServingEnd_writeRows_22 : decode prog_6_method_8_code 22 = .ok (.getfield 36, 3) := by decide +kernel
theorem d_ServingEnd_writeRows_25 : decode prog_6_method_8_code 25 = .ok (.iconst 2, 1) := by decide +kernel
theorem d_ServingEnd_writeRows_26 : decode prog_6_method_8_code 26 = .ok (.aload_n 1, 1) := by decide +kernel
theorem d_ServingEnd_writeRows_27 : decode prog_6_method_8_code 27 = .ok (.getfield 85, 3) := by decide +kernel
theorem d_ServingEnd_writeRows_30 : decode prog_6_method_8_code 30 = .ok (.invokevirtual 78, 3) := by decide +kernel
theorem d_ServingEnd_writeRows_33 : decode prog_6_method_8_code 33 = .ok (.aload_n 0, 1) := by decide +kernel
theorem d_ServingEnd_writeRows_34 : decode prog_6_method_8_code 34 = .ok (.getfield 36, 3) := by decide +kernel
theorem d_ServingEnd_writeRows_37 : decode prog_6_method_8_code 37 = .ok (.iload_n 2, 1) := by decide +kernel
theorem d_ServingEnd_writeRows_38 : decode prog_6_method_8_code 38 = .ok (.invokevirtual 82, 3) := by decide +kernel
theorem d_ServingEnd_writeRows_41 : decode prog_6_method_8_code 41 = .ok (.aload_n 0, 1) := by decide +kernel
theorem d_ServingEnd_writeRows_42 : decode prog_6_method_8_code 42 = .ok (.getfield 36, 3) := by decide +kernel
theorem d_ServingEnd_writeRows_45 : decode prog_6_method_8_code 45 = .ok (.iload 4, 2) := by decide +kernel
theorem d_ServingEnd_writeRows_47 : decode prog_6_method_8_code 47 = .ok (.aload_n 1, 1) := by decide +kernel
theorem d_ServingEnd_writeRows_48 : decode prog_6_method_8_code 48 = .ok (.getfield 69, 3) := by decide +kernel
theorem d_ServingEnd_writeRows_51 : decode prog_6_method_8_code 51 = .ok (.getfield 72, 3) := by decide +kernel
theorem d_ServingEnd_writeRows_54 : decode prog_6_method_8_code 54 = .ok (.if_icmp .ge (7), 3) := by decide +kernel
theorem d_ServingEnd_writeRows_57 : decode prog_6_method_8_code 57 = .ok (.iconst 1, 1) := by decide +kernel
theorem d_ServingEnd_writeRows_58 : decode prog_6_method_8_code 58 = .ok (.goto (4), 3) := by decide +kernel
theorem d_ServingEnd_writeRows_61 : decode prog_6_method_8_code 61 = .ok (.iconst 0, 1) := by decide +kernel
theorem d_ServingEnd_writeRows_62 : decode prog_6_method_8_code 62 = .ok (.invokevirtual 82, 3) := by decide +kernel
theorem d_ServingEnd_writeRows_65 : decode prog_6_method_8_code 65 = .ok (.iload_n 3, 1) := by decide +kernel
theorem d_ServingEnd_writeRows_66 : decode prog_6_method_8_code 66 = .ok (.istore 5, 2) := by decide +kernel
theorem d_ServingEnd_writeRows_68 : decode prog_6_method_8_code 68 = .ok (.iload 5, 2) := by decide +kernel
theorem d_ServingEnd_writeRows_70 : decode prog_6_method_8_code 70 = .ok (.iload 4, 2) := by decide +kernel
theorem d_ServingEnd_writeRows_72 : decode prog_6_method_8_code 72 = .ok (.if_icmp .ge (41), 3) := by decide +kernel
theorem d_ServingEnd_writeRows_75 : decode prog_6_method_8_code 75 = .ok (.aload_n 0, 1) := by decide +kernel
theorem d_ServingEnd_writeRows_76 : decode prog_6_method_8_code 76 = .ok (.getfield 36, 3) := by decide +kernel
theorem d_ServingEnd_writeRows_79 : decode prog_6_method_8_code 79 = .ok (.aload_n 1, 1) := by decide +kernel
theorem d_ServingEnd_writeRows_80 : decode prog_6_method_8_code 80 = .ok (.getfield 69, 3) := by decide +kernel
theorem d_ServingEnd_writeRows_83 : decode prog_6_method_8_code 83 = .ok (.iload 5, 2) := by decide +kernel
theorem d_ServingEnd_writeRows_85 : decode prog_6_method_8_code 85 = .ok (.invokevirtual 92, 3) := by decide +kernel
theorem d_ServingEnd_writeRows_88 : decode prog_6_method_8_code 88 = .ok (.invokevirtual 82, 3) := by decide +kernel
theorem d_ServingEnd_writeRows_91 : decode prog_6_method_8_code 91 = .ok (.aload_n 0, 1) := by decide +kernel
theorem d_ServingEnd_writeRows_92 : decode prog_6_method_8_code 92 = .ok (.getfield 36, 3) := by decide +kernel
theorem d_ServingEnd_writeRows_95 : decode prog_6_method_8_code 95 = .ok (.aload_n 1, 1) := by decide +kernel
theorem d_ServingEnd_writeRows_96 : decode prog_6_method_8_code 96 = .ok (.getfield 69, 3) := by decide +kernel
theorem d_ServingEnd_writeRows_99 : decode prog_6_method_8_code 99 = .ok (.iload 5, 2) := by decide +kernel
theorem d_ServingEnd_writeRows_101 : decode prog_6_method_8_code 101 = .ok (.invokevirtual 95, 3) := by decide +kernel
theorem d_ServingEnd_writeRows_104 : decode prog_6_method_8_code 104 = .ok (.invokevirtual 82, 3) := by decide +kernel
theorem d_ServingEnd_writeRows_107 : decode prog_6_method_8_code 107 = .ok (.iinc 5 1, 3) := by decide +kernel
theorem d_ServingEnd_writeRows_110 : decode prog_6_method_8_code 110 = .ok (.goto (-42), 3) := by decide +kernel
theorem d_ServingEnd_writeRows_113 : decode prog_6_method_8_code 113 = .ok (.return_, 1) := by decide +kernel
theorem d_ServingEnd_answerAsk_0 : decode prog_6_method_2_code 0 = .ok (.aload_n 0, 1) := by decide +kernel
theorem d_ServingEnd_answerAsk_1 : decode prog_6_method_2_code 1 = .ok (.aload_n 0, 1) := by decide +kernel
theorem d_ServingEnd_answerAsk_2 : decode prog_6_method_2_code 2 = .ok (.aload_n 1, 1) := by decide +kernel
theorem d_ServingEnd_answerAsk_3 : decode prog_6_method_2_code 3 = .ok (.getfield 41, 3) := by decide +kernel
theorem d_ServingEnd_answerAsk_6 : decode prog_6_method_2_code 6 = .ok (.invokevirtual 44, 3) := by decide +kernel
theorem d_ServingEnd_answerAsk_9 : decode prog_6_method_2_code 9 = .ok (.invokevirtual 48, 3) := by decide +kernel
theorem d_ServingEnd_answerAsk_12 : decode prog_6_method_2_code 12 = .ok (.astore_n 2, 1) := by decide +kernel
theorem d_ServingEnd_answerAsk_13 : decode prog_6_method_2_code 13 = .ok (.aload_n 2, 1) := by decide +kernel
theorem d_ServingEnd_answerAsk_14 : decode prog_6_method_2_code 14 = .ok (.ifnull (28), 3) := by decide +kernel
theorem d_ServingEnd_answerAsk_17 : decode prog_6_method_2_code 17 = .ok (.aload_n 2, 1) := by decide +kernel
theorem d_ServingEnd_answerAsk_18 : decode prog_6_method_2_code 18 = .ok (.getfield 52, 3) := by decide +kernel
theorem d_ServingEnd_answerAsk_21 : decode prog_6_method_2_code 21 = .ok (.aload_n 1, 1) := by decide +kernel
theorem d_ServingEnd_answerAsk_22 : decode prog_6_method_2_code 22 = .ok (.iconst 0, 1) := by decide +kernel
theorem d_ServingEnd_answerAsk_23 : decode prog_6_method_2_code 23 = .ok (.invokevirtual 55, 3) := by decide +kernel
theorem d_ServingEnd_answerAsk_26 : decode prog_6_method_2_code 26 = .ok (.if_icmp .ne (16), 3) := by decide +kernel
theorem d_ServingEnd_answerAsk_29 : decode prog_6_method_2_code 29 = .ok (.aload_n 0, 1) := by decide +kernel
theorem d_ServingEnd_answerAsk_30 : decode prog_6_method_2_code 30 = .ok (.dup, 1) := by decide +kernel
theorem d_ServingEnd_answerAsk_31 : decode prog_6_method_2_code 31 = .ok (.getfield 30, 3) := by decide +kernel
end
section
/-! New arrays of ints and of booleans, over the tables' facts. -/
section FWN
variable {p : Program} {l : Launch} {e : Env} {Rm : Room} {s : State} {m : MethodId} {args : Array Value} {below : List Frame} {meth : Method} {c : Code} {H : Heap} {locs : List Loc} {cells slots : Nat} {Q : State → Prop} {G : fw_G} {own : String} {cc : ByteArray} {nL : Nat} {ret : Option FieldType} {kd : Nat → Option Nat} {S : fw_S} {pc : Nat} {ls : Array Slot} {rest : List Value}
theorem fw_newai (C : fw_C G own cc nL ret p s m args meth c) (Rr : fw_R G kd S H locs) {n : Int32} (hn : ¬ n < 0) (hbytes : n.toNatClampNeg * componentBytes .int ≤ 536870912) (hcells : cells + 1 ≤ Rm.cells) (hslots : slots + n.toNatClampNeg ≤ Rm.slots) (hdg : decode cc pc = .ok (.newarray .int, 2))
    (kk : ∀ (H1 : Heap) (kd' : Nat → Option Nat), fw_X kd kd' → kd' (fw_z S) = some 100 → fw_R G kd' (fw_nw S n.toNatClampNeg) H1 locs → W p l e Rm s m args below meth c H1 locs (cells + 1) (slots + n.toNatClampNeg) Q (F0 m (pc + 2) ls (.ref (fw_z S) :: rest))) : W p l e Rm s m args below meth c H locs cells slots Q (F0 m pc ls (.int n :: rest)) :=
  fw_newa C Rr (ty := .int) rfl ac_int (by decide) (by decide) (by decide) rfl hn hbytes hcells hslots hdg (fun _ h => h) kk
theorem fw_newaz (C : fw_C G own cc nL ret p s m args meth c) (Rr : fw_R G kd S H locs) {n : Int32} (hn : ¬ n < 0) (hbytes : n.toNatClampNeg * componentBytes .boolean ≤ 536870912) (hcells : cells + 1 ≤ Rm.cells) (hslots : slots + n.toNatClampNeg ≤ Rm.slots) (hdg : decode cc pc = .ok (.newarray .boolean, 2))
    (kk : ∀ (H1 : Heap) (kd' : Nat → Option Nat), fw_X kd kd' → kd' (fw_z S) = some 101 → fw_R G kd' (fw_nw S n.toNatClampNeg) H1 locs → W p l e Rm s m args below meth c H1 locs (cells + 1) (slots + n.toNatClampNeg) Q (F0 m (pc + 2) ls (.ref (fw_z S) :: rest))) : W p l e Rm s m args below meth c H locs cells slots Q (F0 m pc ls (.int n :: rest)) :=
  fw_newa C Rr (ty := .boolean) rfl ac_boolean (by decide) (by decide) (by decide) rfl hn hbytes hcells hslots hdg (fun _ h => h) kk
end FWN
end
section
/-! A function of the abstract store for each method (by program, out of the listing). -/
def F_Frame_init (a0 : Nat) (S0 : fw_S) : Option (fw_S) :=
  (fw_let (fw_wi S0 a0 0 (0 : Int32)) (fun S1 =>
  (fw_let (fw_wi S1 a0 1 (0 : Int32)) (fun S2 =>
  (fw_let (fw_wi S2 a0 2 (0 : Int32)) (fun S3 =>
  (fw_let (fw_z S3) (fun b5 => (fw_let (fw_nw S3 (18 : Int32).toNatClampNeg) (fun S4 =>
  (fw_let (fw_wr S4 a0 3 (some b5)) (fun S7 =>
  (some S7)))))))))))))
def F_Frame_begin (a0 : Nat) (p1 : Int32) (p2 : Int32) (S0 : fw_S) : Option (fw_S) :=
  (fw_let (fw_wi S0 a0 0 p1) (fun S1 =>
  (fw_let (fw_wi S1 a0 1 p2) (fun S2 =>
  (fw_let (fw_wi S2 a0 2 (0 : Int32)) (fun S3 =>
  (some S3)))))))
def F_Frame_put (a0 : Nat) (p1 : Int32) (S0 : fw_S) : Option (fw_S) :=
  (if (fw_g S0 a0 2) < 0 then
  (some S0)
  else
  (fw_om (fw_r S0 a0 3) none (fun b1 =>
  (if (nI (fw_l S0 b1)) ≤ (fw_g S0 a0 2) then
  (some S0)
  else
  (fw_om (fw_r S0 a0 3) none (fun b2 =>
  (if (fw_g S0 a0 2) < 0 ∨ fw_l S0 b2 ≤ (fw_g S0 a0 2).toNatClampNeg then none else
  (fw_let (fw_wi S0 b2 (fw_g S0 a0 2).toNatClampNeg (p1 &&& (255 : Int32))) (fun S4 =>
  (fw_let (fw_wi S4 a0 2 ((fw_g S4 a0 2) + (1 : Int32))) (fun S5 =>
  (some S5))))))))))))
def F_Frame_byteAt (a0 : Nat) (p1 : Int32) (S0 : fw_S) : Option (Int32) :=
  (if p1 < 0 then
  (some (0 : Int32))
  else
  (if (fw_g S0 a0 2) ≤ p1 then
  (some (0 : Int32))
  else
  (fw_om (fw_r S0 a0 3) none (fun b1 =>
  (if (nI (fw_l S0 b1)) ≤ p1 then
  (some (0 : Int32))
  else
  (fw_om (fw_r S0 a0 3) none (fun b2 =>
  (if p1 < 0 ∨ fw_l S0 b2 ≤ p1.toNatClampNeg then none else
  (some (fw_g S0 b2 p1.toNatClampNeg))))))))))
def F_Frame_sum_l17 (S0 : fw_S) : Nat → Nat → Int32 → Int32 → Option (Int32)
  | 0, _, _, _ => none
  | n + 1, v0, v1, v2 =>
    (if (fw_g S0 v0 2) ≤ v2 then
  (some v1)
  else
  (fw_om (fw_r S0 v0 3) none (fun b2 =>
  (if (nI (fw_l S0 b2)) ≤ v2 then
  (some v1)
  else
  (fw_om (fw_r S0 v0 3) none (fun b3 =>
  (if v2 < 0 ∨ fw_l S0 b3 ≤ v2.toNatClampNeg then none else
  (fw_let (v1 ^^^ (fw_g S0 b3 v2.toNatClampNeg)) (fun x5 =>
  F_Frame_sum_l17 S0 n v0 x5 (v2 + (1 : Int32)))))))))))
def F_Frame_sum (a0 : Nat) (S0 : fw_S) : Option (Int32) :=
  (fw_let (((fw_g S0 a0 0) ^^^ (fw_g S0 a0 1)) ^^^ (fw_g S0 a0 2)) (fun x1 =>
  F_Frame_sum_l17 S0 4096 a0 x1 (0 : Int32)))
def F_Pairs_init (a0 : Nat) (p1 : Int32) (S0 : fw_S) : Option (fw_S) :=
  (fw_let (fw_wi S0 a0 2 (0 : Int32)) (fun S1 =>
  (fw_let (if p1 < (0 : Int32) then (0 : Int32) else p1) (fun x2 =>
  (if x2 < 0 ∨ 64 < x2.toNatClampNeg then none else
  (fw_let (fw_z S1) (fun b5 => (fw_let (fw_nw S1 x2.toNatClampNeg) (fun S4 =>
  (fw_let (fw_wr S4 a0 0 (some b5)) (fun S7 =>
  (if x2 < 0 ∨ 64 < x2.toNatClampNeg then none else
  (fw_let (fw_z S7) (fun b10 => (fw_let (fw_nw S7 x2.toNatClampNeg) (fun S9 =>
  (fw_let (fw_wr S9 a0 1 (some b10)) (fun S12 =>
  (some S12)))))))))))))))))))
def F_Memory_init (a0 : Nat) (S0 : fw_S) : Option (fw_S) :=
  (fw_let (fw_wi S0 a0 0 (0 : Int32)) (fun S1 =>
  (fw_let (fw_wi S1 a0 1 (0 : Int32)) (fun S2 =>
  (fw_let (fw_wi S2 a0 2 (0 : Int32)) (fun S3 =>
  (fw_let (fw_z S3) (fun b5 => (fw_let (fw_nw S3 0) (fun S4 =>
  (Option.bind (F_Pairs_init b5 (60 : Int32) S4) (fun S7 =>
  (fw_let (fw_wr S7 a0 3 (some b5)) (fun S9 =>
  (some S9)))))))))))))))
def F_Pairs_add (a0 : Nat) (p1 : Int32) (p2 : Int32) (S0 : fw_S) : Option (Int32 × fw_S) :=
  (if (fw_g S0 a0 2) < 0 then
  (some ((0 : Int32), S0))
  else
  (fw_om (fw_r S0 a0 0) none (fun b1 =>
  (if (nI (fw_l S0 b1)) ≤ (fw_g S0 a0 2) then
  (some ((0 : Int32), S0))
  else
  (fw_om (fw_r S0 a0 1) none (fun b2 =>
  (if (fw_g S0 a0 2) < (nI (fw_l S0 b2)) then
  (fw_om (fw_r S0 a0 0) none (fun b3 =>
  (if (fw_g S0 a0 2) < 0 ∨ fw_l S0 b3 ≤ (fw_g S0 a0 2).toNatClampNeg then none else
  (fw_let (fw_wi S0 b3 (fw_g S0 a0 2).toNatClampNeg p1) (fun S5 =>
  (fw_om (fw_r S5 a0 1) none (fun b6 =>
  (if (fw_g S5 a0 2) < 0 ∨ fw_l S5 b6 ≤ (fw_g S5 a0 2).toNatClampNeg then none else
  (fw_let (fw_wi S5 b6 (fw_g S5 a0 2).toNatClampNeg p2) (fun S8 =>
  (fw_let (fw_wi S8 a0 2 ((fw_g S8 a0 2) + (1 : Int32))) (fun S9 =>
  (some ((1 : Int32), S9))))))))))))))
  else
  (some ((0 : Int32), S0)))))))))
def F_Pairs_keyAt (a0 : Nat) (p1 : Int32) (S0 : fw_S) : Option (Int32) :=
  (if p1 < 0 then
  (some (-2 : Int32))
  else
  (if (fw_g S0 a0 2) ≤ p1 then
  (some (-2 : Int32))
  else
  (fw_om (fw_r S0 a0 0) none (fun b1 =>
  (if (nI (fw_l S0 b1)) ≤ p1 then
  (some (-2 : Int32))
  else
  (fw_om (fw_r S0 a0 0) none (fun b2 =>
  (if p1 < 0 ∨ fw_l S0 b2 ≤ p1.toNatClampNeg then none else
  (some (fw_g S0 b2 p1.toNatClampNeg))))))))))
def F_Pairs_valueAt (a0 : Nat) (p1 : Int32) (S0 : fw_S) : Option (Int32) :=
  (if p1 < 0 then
  (some (-2 : Int32))
  else
  (if (fw_g S0 a0 2) ≤ p1 then
  (some (-2 : Int32))
  else
  (fw_om (fw_r S0 a0 1) none (fun b1 =>
  (if (nI (fw_l S0 b1)) ≤ p1 then
  (some (-2 : Int32))
  else
  (fw_om (fw_r S0 a0 1) none (fun b2 =>
  (if p1 < 0 ∨ fw_l S0 b2 ≤ p1.toNatClampNeg then none else
  (some (fw_g S0 b2 p1.toNatClampNeg))))))))))
def F_Pairs_clear (a0 : Nat) (S0 : fw_S) : Option (fw_S) :=
  (fw_let (fw_wi S0 a0 2 (0 : Int32)) (fun S1 =>
  (some S1)))
def F_Request_addKey_j36 (v0 : Nat) (v1 : Int32) (S0 : fw_S) : Option (fw_S) :=
    (if (fw_g S0 v0 5) < 0 then
  (some S0)
  else
  (fw_om (fw_r S0 v0 4) none (fun b1 =>
  (if (nI (fw_l S0 b1)) ≤ (fw_g S0 v0 5) then
  (some S0)
  else
  (fw_om (fw_r S0 v0 4) none (fun b2 =>
  (if (fw_g S0 v0 5) < 0 ∨ fw_l S0 b2 ≤ (fw_g S0 v0 5).toNatClampNeg then none else
  (fw_let (fw_wi S0 b2 (fw_g S0 v0 5).toNatClampNeg v1) (fun S4 =>
  (fw_let (fw_wi S4 v0 5 ((fw_g S4 v0 5) + (1 : Int32))) (fun S5 =>
  (some S5))))))))))))
def F_Request_addKey_l2 : Nat → Nat → Int32 → Int32 → fw_S → Option (fw_S)
  | 0, _, _, _, _ => none
  | n + 1, v0, v1, v2, S0 =>
    (if (fw_g S0 v0 5) ≤ v2 then
  F_Request_addKey_j36 v0 v1 S0
  else
  (fw_om (fw_r S0 v0 4) none (fun b6 =>
  (if (nI (fw_l S0 b6)) ≤ v2 then
  F_Request_addKey_j36 v0 v1 S0
  else
  (fw_om (fw_r S0 v0 4) none (fun b7 =>
  (if v2 < 0 ∨ fw_l S0 b7 ≤ v2.toNatClampNeg then none else
  (if ¬ (fw_g S0 b7 v2.toNatClampNeg) = v1 then
  F_Request_addKey_l2 n v0 v1 (v2 + (1 : Int32)) S0
  else
  (some S0)))))))))
def F_Request_addKey (a0 : Nat) (p1 : Int32) (S0 : fw_S) : Option (fw_S) :=
  F_Request_addKey_l2 4096 a0 p1 (0 : Int32) S0
def F_Request_hasKeysLeft (a0 : Nat) (S0 : fw_S) : Option (Int32) :=
  (if (fw_g S0 a0 5) ≤ (fw_g S0 a0 6) then
  (some (0 : Int32))
  else
  (some (1 : Int32)))
def F_Request_nextStep (a0 : Nat) (p1 : Int32) (S0 : fw_S) : Option (fw_S) :=
  (fw_let (fw_wi S0 a0 11 (((fw_g S0 a0 11) + (1 : Int32)) &&& (255 : Int32))) (fun S1 =>
  (fw_om (fw_r S1 a0 9) none (fun b2 =>
  (Option.bind (F_Frame_begin b2 p1 (fw_g S1 a0 10) S1) (fun S3 =>
  (fw_om (fw_r S3 a0 9) none (fun b5 =>
  (Option.bind (F_Frame_put b5 (fw_g S3 a0 11) S3) (fun S6 =>
  (some S6)))))))))))
def F_Request_writeAsk_j63 (v0 : Nat) (v1 : Int32) (S0 : fw_S) : Option (fw_S) :=
    (fw_let (fw_wi S0 v0 6 v1) (fun S6 =>
  (fw_let (fw_wi S6 v0 8 (0 : Int32)) (fun S7 =>
  (some S7)))))
def F_Request_writeAsk_l39 : Nat → Nat → Int32 → Int32 → fw_S → Option (fw_S)
  | 0, _, _, _, _ => none
  | n + 1, v0, v1, v2, S0 =>
    (if v1 ≤ v2 then
  F_Request_writeAsk_j63 v0 v1 S0
  else
  (fw_om (fw_r S0 v0 9) ((fw_om (fw_r S0 v0 4) none (fun b9 =>
  (if v2 < 0 ∨ fw_l S0 b9 ≤ v2.toNatClampNeg then none else
  none)))) (fun b8 =>
  (fw_om (fw_r S0 v0 4) none (fun b11 =>
  (if v2 < 0 ∨ fw_l S0 b11 ≤ v2.toNatClampNeg then none else
  (Option.bind (F_Frame_put b8 (fw_g S0 b11 v2.toNatClampNeg) S0) (fun S13 =>
  F_Request_writeAsk_l39 n v0 v1 (v2 + (1 : Int32)) S13))))))))
def F_Request_writeAsk (a0 : Nat) (S0 : fw_S) : Option (fw_S) :=
  (Option.bind (F_Request_nextStep a0 (1 : Int32) S0) (fun S1 =>
  (fw_om (fw_r S1 a0 4) none (fun b3 =>
  (fw_let (if (nI (fw_l S1 b3)) < (if (fw_g S1 a0 5) < ((fw_g S1 a0 6) + (fw_g S1 a0 2)) then (fw_g S1 a0 5) else ((fw_g S1 a0 6) + (fw_g S1 a0 2))) then (nI (fw_l S1 b3)) else (if (fw_g S1 a0 5) < ((fw_g S1 a0 6) + (fw_g S1 a0 2)) then (fw_g S1 a0 5) else ((fw_g S1 a0 6) + (fw_g S1 a0 2)))) (fun x4 =>
  (fw_let (if (fw_g S1 a0 6) < (0 : Int32) then (0 : Int32) else (fw_g S1 a0 6)) (fun x5 =>
  F_Request_writeAsk_l39 4096 a0 x4 x5 S1))))))))
def F_Request_writeMore (a0 : Nat) (S0 : fw_S) : Option (fw_S) :=
  (Option.bind (F_Request_nextStep a0 (3 : Int32) S0) (fun S1 =>
  (fw_om (fw_r S1 a0 9) none (fun b3 =>
  (Option.bind (F_Frame_put b3 (fw_g S1 a0 8) S1) (fun S4 =>
  (some S4)))))))
def F_Request_waitsFor (a0 : Nat) (p1 : Nat) (p2 : Int32) (S0 : fw_S) : Option (Int32) :=
  (if ¬ (fw_g S0 a0 14) = 0 then
  (some (0 : Int32))
  else
  (if ¬ (fw_g S0 a0 0) = p2 then
  (some (0 : Int32))
  else
  (Option.bind (F_Frame_byteAt p1 (0 : Int32) S0) (fun x1 =>
  (if ¬ x1 = (fw_g S0 a0 11) then
  (some (0 : Int32))
  else
  (if (fw_g S0 p1 0) = (2 : Int32) then
  (some (1 : Int32))
  else
  (if ¬ (fw_g S0 p1 0) = (4 : Int32) then
  (some (0 : Int32))
  else
  (some (1 : Int32)))))))))
def F_Request_takeRows_l2 : Nat → Nat → Nat → Int32 → fw_S → Option (fw_S)
  | 0, _, _, _, _ => none
  | n + 1, v0, v1, v2, S0 =>
    (if (fw_g S0 v1 2) ≤ (v2 + (1 : Int32)) then
  (some S0)
  else
  (fw_om (fw_r S0 v0 7) ((Option.bind (F_Frame_byteAt v1 v2 S0) (fun x2 =>
  (Option.bind (F_Frame_byteAt v1 (v2 + (1 : Int32)) S0) (fun x4 =>
  none))))) (fun b1 =>
  (Option.bind (F_Frame_byteAt v1 v2 S0) (fun x6 =>
  (Option.bind (F_Frame_byteAt v1 (v2 + (1 : Int32)) S0) (fun x8 =>
  (fw_b2 (F_Pairs_add b1 x6 x8 S0) (fun x11 S10 =>
  (fw_let (fw_wi S10 v0 8 ((fw_g S10 v0 8) + (1 : Int32))) (fun S13 =>
  F_Request_takeRows_l2 n v0 v1 (v2 + (2 : Int32)) S13)))))))))))
def F_Request_takeRows (a0 : Nat) (p1 : Nat) (S0 : fw_S) : Option (fw_S) :=
  F_Request_takeRows_l2 4096 a0 p1 (2 : Int32) S0
def F_Request_fail (a0 : Nat) (p1 : Int32) (S0 : fw_S) : Option (fw_S) :=
  (fw_let (fw_wi S0 a0 15 p1) (fun S1 =>
  (if (fw_g S1 a0 1) = 0 then
  (fw_let (fw_wi S1 a0 14 (2 : Int32)) (fun S2 =>
  (some S2)))
  else
  (fw_let (fw_wi S1 a0 14 (1 : Int32)) (fun S3 =>
  (fw_om (fw_r S3 a0 7) none (fun b4 =>
  (Option.bind (F_Pairs_clear b4 S3) (fun S5 =>
  (some S5))))))))))
def F_Request_joinedSize_l42 (S0 : fw_S) (k29 : Nat → Int32 → Int32 → Option (Int32)) : Nat → Nat → Int32 → Int32 → Int32 → Option (Int32)
  | 0, _, _, _, _ => none
  | n + 1, v0, v1, v2, v3 =>
    (fw_om (fw_r S0 v0 7) none (fun b2 =>
  (if (fw_g S0 b2 2) ≤ v3 then
  k29 v0 v1 (v2 + (1 : Int32))
  else
  (fw_om (fw_r S0 v0 7) none (fun b3 =>
  (Option.bind (F_Pairs_keyAt b3 v3 S0) (fun x4 =>
  (fw_om (fw_r S0 v0 3) none (fun b6 =>
  (Option.bind (F_Pairs_keyAt b6 v2 S0) (fun x7 =>
  (if ¬ x4 = x7 then
  F_Request_joinedSize_l42 S0 k29 n v0 v1 v2 (v3 + (1 : Int32))
  else
  F_Request_joinedSize_l42 S0 k29 n v0 (v1 + (1 : Int32)) v2 (v3 + (1 : Int32))))))))))))))
def F_Request_joinedSize_l29 (S0 : fw_S) : Nat → Nat → Int32 → Int32 → Option (Int32)
  | 0, _, _, _ => none
  | n + 1, v0, v1, v2 =>
    (fw_om (fw_r S0 v0 3) none (fun b1 =>
  (if (fw_g S0 b1 2) ≤ v2 then
  (some v1)
  else
  F_Request_joinedSize_l42 S0 (F_Request_joinedSize_l29 S0 n) 4096 v0 v1 v2 (0 : Int32))))
def F_Request_joinedSize (a0 : Nat) (S0 : fw_S) : Option (Int32) :=
  (if (fw_g S0 a0 14) = (1 : Int32) then
  (if (fw_g S0 a0 15) = 0 then
  F_Request_joinedSize_l29 S0 4096 a0 (0 : Int32) (0 : Int32)
  else
  (fw_om (fw_r S0 a0 3) none (fun b9 =>
  (some (fw_g S0 b9 2)))))
  else
  (some (0 : Int32)))
def F_Request_silentPart (a0 : Nat) (p1 : Int32) (p2 : Int32) (S0 : fw_S) : Option (Int32) :=
  (if p1 < 0 then
  (some (-2 : Int32))
  else
  (fw_om (fw_r S0 a0 3) none (fun b1 =>
  (if p1 < (fw_g S0 b1 2) then
  (if p2 = 0 then
  (some (-1 : Int32))
  else
  (fw_om (fw_r S0 a0 3) none (fun b2 =>
  (Option.bind (F_Pairs_valueAt b2 p1 S0) (fun x3 =>
  (some x3))))))
  else
  (some (-2 : Int32))))))
def F_Request_joinedPart_j75 (S0 : fw_S) (v0 : Nat) (v2 : Int32) (v4 : Int32) (v5 : Int32) : Option (Int32) :=
    (if v2 = 0 then
  (fw_om (fw_r S0 v0 7) none (fun b9 =>
  (Option.bind (F_Pairs_valueAt b9 v5 S0) (fun x10 =>
  (some x10)))))
  else
  (fw_om (fw_r S0 v0 3) none (fun b12 =>
  (Option.bind (F_Pairs_valueAt b12 v4 S0) (fun x13 =>
  (some x13))))))
def F_Request_joinedPart_l34 (S0 : fw_S) (k19 : Nat → Int32 → Int32 → Int32 → Int32 → Option (Int32)) : Nat → Nat → Int32 → Int32 → Int32 → Int32 → Int32 → Option (Int32)
  | 0, _, _, _, _, _, _ => none
  | n + 1, v0, v1, v2, v3, v4, v5 =>
    (fw_om (fw_r S0 v0 7) none (fun b2 =>
  (if (fw_g S0 b2 2) ≤ v5 then
  k19 v0 v1 v2 v3 (v4 + (1 : Int32))
  else
  (fw_om (fw_r S0 v0 7) none (fun b3 =>
  (Option.bind (F_Pairs_keyAt b3 v5 S0) (fun x4 =>
  (fw_om (fw_r S0 v0 3) none (fun b6 =>
  (Option.bind (F_Pairs_keyAt b6 v4 S0) (fun x7 =>
  (if x4 = x7 then
  (if ¬ v3 = v1 then
  F_Request_joinedPart_l34 S0 k19 n v0 v1 v2 (v3 + (1 : Int32)) v4 (v5 + (1 : Int32))
  else
  F_Request_joinedPart_j75 S0 v0 v2 v4 v5)
  else
  F_Request_joinedPart_l34 S0 k19 n v0 v1 v2 v3 v4 (v5 + (1 : Int32))))))))))))))
def F_Request_joinedPart_l19 (S0 : fw_S) : Nat → Nat → Int32 → Int32 → Int32 → Int32 → Option (Int32)
  | 0, _, _, _, _, _ => none
  | n + 1, v0, v1, v2, v3, v4 =>
    (fw_om (fw_r S0 v0 3) none (fun b1 =>
  (if (fw_g S0 b1 2) ≤ v4 then
  (some (-2 : Int32))
  else
  F_Request_joinedPart_l34 S0 (F_Request_joinedPart_l19 S0 n) 4096 v0 v1 v2 v3 v4 (0 : Int32))))
def F_Request_joinedPart (a0 : Nat) (p1 : Int32) (p2 : Int32) (S0 : fw_S) : Option (Int32) :=
  (if (fw_g S0 a0 15) = 0 then
  F_Request_joinedPart_l19 S0 4096 a0 p1 p2 (0 : Int32) (0 : Int32)
  else
  (Option.bind (F_Request_silentPart a0 p1 p2 S0) (fun x15 =>
  (some x15))))
set_option maxRecDepth 100000 in
def F_ServingEnd_init (a0 : Nat) (S0 : fw_S) : Option (fw_S) :=
  (fw_let (fw_z S0) (fun b2 => (fw_let (fw_nw S0 0) (fun S1 =>
  (Option.bind (F_Pairs_init b2 (60 : Int32) S1) (fun S4 =>
  (fw_let (fw_wr S4 a0 0 (some b2)) (fun S6 =>
  (fw_let (fw_z S6) (fun b8 => (fw_let (fw_nw S6 (8 : Int32).toNatClampNeg) (fun S7 =>
  (fw_let (fw_wr S7 a0 1 (some b8)) (fun S10 =>
  (fw_let (fw_wi S10 a0 2 (0 : Int32)) (fun S11 =>
  (fw_let (fw_wi S11 a0 3 (0 : Int32)) (fun S12 =>
  (fw_let (fw_z S12) (fun b14 => (fw_let (fw_nw S12 0) (fun S13 =>
  (Option.bind (F_Frame_init b14 S13) (fun S16 =>
  (fw_let (fw_wr S16 a0 4 (some b14)) (fun S18 =>
  (fw_om (fw_r S18 a0 1) ((fw_let (fw_z S18) (fun b21 => (fw_let (fw_nw S18 0) (fun S20 =>
  (Option.bind (F_Memory_init b21 S20) (fun S23 =>
  none))))))) (fun b19 =>
  (fw_let (fw_z S18) (fun b26 => (fw_let (fw_nw S18 0) (fun S25 =>
  (Option.bind (F_Memory_init b26 S25) (fun S28 =>
  (if (0 : Int32) < 0 ∨ fw_l S28 b19 ≤ (0 : Int32).toNatClampNeg then none else
  (fw_let (fw_wr S28 b19 (0 : Int32).toNatClampNeg (some b26)) (fun S31 =>
  (fw_om (fw_r S31 a0 1) ((fw_let (fw_z S31) (fun b34 => (fw_let (fw_nw S31 0) (fun S33 =>
  (Option.bind (F_Memory_init b34 S33) (fun S36 =>
  none))))))) (fun b32 =>
  (fw_let (fw_z S31) (fun b39 => (fw_let (fw_nw S31 0) (fun S38 =>
  (Option.bind (F_Memory_init b39 S38) (fun S41 =>
  (if (1 : Int32) < 0 ∨ fw_l S41 b32 ≤ (1 : Int32).toNatClampNeg then none else
  (fw_let (fw_wr S41 b32 (1 : Int32).toNatClampNeg (some b39)) (fun S44 =>
  (fw_om (fw_r S44 a0 1) ((fw_let (fw_z S44) (fun b47 => (fw_let (fw_nw S44 0) (fun S46 =>
  (Option.bind (F_Memory_init b47 S46) (fun S49 =>
  none))))))) (fun b45 =>
  (fw_let (fw_z S44) (fun b52 => (fw_let (fw_nw S44 0) (fun S51 =>
  (Option.bind (F_Memory_init b52 S51) (fun S54 =>
  (if (2 : Int32) < 0 ∨ fw_l S54 b45 ≤ (2 : Int32).toNatClampNeg then none else
  (fw_let (fw_wr S54 b45 (2 : Int32).toNatClampNeg (some b52)) (fun S57 =>
  (fw_om (fw_r S57 a0 1) ((fw_let (fw_z S57) (fun b60 => (fw_let (fw_nw S57 0) (fun S59 =>
  (Option.bind (F_Memory_init b60 S59) (fun S62 =>
  none))))))) (fun b58 =>
  (fw_let (fw_z S57) (fun b65 => (fw_let (fw_nw S57 0) (fun S64 =>
  (Option.bind (F_Memory_init b65 S64) (fun S67 =>
  (if (3 : Int32) < 0 ∨ fw_l S67 b58 ≤ (3 : Int32).toNatClampNeg then none else
  (fw_let (fw_wr S67 b58 (3 : Int32).toNatClampNeg (some b65)) (fun S70 =>
  (fw_om (fw_r S70 a0 1) ((fw_let (fw_z S70) (fun b73 => (fw_let (fw_nw S70 0) (fun S72 =>
  (Option.bind (F_Memory_init b73 S72) (fun S75 =>
  none))))))) (fun b71 =>
  (fw_let (fw_z S70) (fun b78 => (fw_let (fw_nw S70 0) (fun S77 =>
  (Option.bind (F_Memory_init b78 S77) (fun S80 =>
  (if (4 : Int32) < 0 ∨ fw_l S80 b71 ≤ (4 : Int32).toNatClampNeg then none else
  (fw_let (fw_wr S80 b71 (4 : Int32).toNatClampNeg (some b78)) (fun S83 =>
  (fw_om (fw_r S83 a0 1) ((fw_let (fw_z S83) (fun b86 => (fw_let (fw_nw S83 0) (fun S85 =>
  (Option.bind (F_Memory_init b86 S85) (fun S88 =>
  none))))))) (fun b84 =>
  (fw_let (fw_z S83) (fun b91 => (fw_let (fw_nw S83 0) (fun S90 =>
  (Option.bind (F_Memory_init b91 S90) (fun S93 =>
  (if (5 : Int32) < 0 ∨ fw_l S93 b84 ≤ (5 : Int32).toNatClampNeg then none else
  (fw_let (fw_wr S93 b84 (5 : Int32).toNatClampNeg (some b91)) (fun S96 =>
  (fw_om (fw_r S96 a0 1) ((fw_let (fw_z S96) (fun b99 => (fw_let (fw_nw S96 0) (fun S98 =>
  (Option.bind (F_Memory_init b99 S98) (fun S101 =>
  none))))))) (fun b97 =>
  (fw_let (fw_z S96) (fun b104 => (fw_let (fw_nw S96 0) (fun S103 =>
  (Option.bind (F_Memory_init b104 S103) (fun S106 =>
  (if (6 : Int32) < 0 ∨ fw_l S106 b97 ≤ (6 : Int32).toNatClampNeg then none else
  (fw_let (fw_wr S106 b97 (6 : Int32).toNatClampNeg (some b104)) (fun S109 =>
  (fw_om (fw_r S109 a0 1) ((fw_let (fw_z S109) (fun b112 => (fw_let (fw_nw S109 0) (fun S111 =>
  (Option.bind (F_Memory_init b112 S111) (fun S114 =>
  none))))))) (fun b110 =>
  (fw_let (fw_z S109) (fun b117 => (fw_let (fw_nw S109 0) (fun S116 =>
  (Option.bind (F_Memory_init b117 S116) (fun S119 =>
  (if (7 : Int32) < 0 ∨ fw_l S119 b110 ≤ (7 : Int32).toNatClampNeg then none else
  (fw_let (fw_wr S119 b110 (7 : Int32).toNatClampNeg (some b117)) (fun S122 =>
  (some S122)))))))))))))))))))))))))))))))))))))))))))))))))))))))))))))))))))))))))))))))))))))))))))))))))))))))))))))))))))
def F_ServingEnd_memoryAt (a0 : Nat) (p1 : Int32) (S0 : fw_S) : Option (Option Nat) :=
  (if p1 < 0 then
  (some none)
  else
  (if (fw_g S0 a0 2) ≤ p1 then
  (some none)
  else
  (fw_om (fw_r S0 a0 1) none (fun b1 =>
  (if (nI (fw_l S0 b1)) ≤ p1 then
  (some none)
  else
  (fw_om (fw_r S0 a0 1) none (fun b2 =>
  (if p1 < 0 ∨ fw_l S0 b2 ≤ p1.toNatClampNeg then none else
  (fw_om (fw_r S0 b2 p1.toNatClampNeg) (some none) (fun b4 =>
  (some (some b4))))))))))))
def F_ServingEnd_placeOf_l2 (S0 : fw_S) : Nat → Nat → Int32 → Int32 → Option (Int32)
  | 0, _, _, _ => none
  | n + 1, v0, v1, v2 =>
    (if (fw_g S0 v0 2) ≤ v2 then
  (some (-2 : Int32))
  else
  (Option.bind (F_ServingEnd_memoryAt v0 v2 S0) (fun o1 =>
  (fw_om o1 (F_ServingEnd_placeOf_l2 S0 n v0 v1 (v2 + (1 : Int32))) (fun b3 =>
  (if ¬ (fw_g S0 b3 0) = v1 then
  F_ServingEnd_placeOf_l2 S0 n v0 v1 (v2 + (1 : Int32))
  else
  (some v2)))))))
def F_ServingEnd_placeOf (a0 : Nat) (p1 : Int32) (S0 : fw_S) : Option (Int32) :=
  F_ServingEnd_placeOf_l2 S0 4096 a0 p1 (0 : Int32)
def F_ServingEnd_memoryFor_j90 (v0 : Nat) (S0 : fw_S) : Option ((Option Nat) × fw_S) :=
    (fw_let ((fw_g S0 v0 2) - (1 : Int32)) (fun x6 =>
  (if x6 < 0 then
  (some (none, S0))
  else
  (fw_om (fw_r S0 v0 1) none (fun b7 =>
  (if (nI (fw_l S0 b7)) ≤ x6 then
  (some (none, S0))
  else
  (fw_om (fw_r S0 v0 1) none (fun b8 =>
  (if x6 < 0 ∨ fw_l S0 b8 ≤ x6.toNatClampNeg then none else
  (fw_let (fw_wr S0 b8 x6.toNatClampNeg none) (fun S10 =>
  (some (none, S10)))))))))))))
def F_ServingEnd_memoryFor_l45 : Nat → Nat → Int32 → fw_S → Option ((Option Nat) × fw_S)
  | 0, _, _, _ => none
  | n + 1, v0, v4, S0 =>
    (if (fw_g S0 v0 2) ≤ (v4 + (1 : Int32)) then
  F_ServingEnd_memoryFor_j90 v0 S0
  else
  (fw_om (fw_r S0 v0 1) none (fun b11 =>
  (if (nI (fw_l S0 b11)) ≤ (v4 + (1 : Int32)) then
  F_ServingEnd_memoryFor_j90 v0 S0
  else
  (fw_om (fw_r S0 v0 1) ((fw_om (fw_r S0 v0 1) none (fun b13 =>
  (if (v4 + (1 : Int32)) < 0 ∨ fw_l S0 b13 ≤ (v4 + (1 : Int32)).toNatClampNeg then none else
  (fw_om (fw_r S0 b13 (v4 + (1 : Int32)).toNatClampNeg) none (fun b15 =>
  none)))))) (fun b12 =>
  (fw_om (fw_r S0 v0 1) none (fun b16 =>
  (if (v4 + (1 : Int32)) < 0 ∨ fw_l S0 b16 ≤ (v4 + (1 : Int32)).toNatClampNeg then none else
  (fw_om (fw_r S0 b16 (v4 + (1 : Int32)).toNatClampNeg) ((if v4 < 0 ∨ fw_l S0 b12 ≤ v4.toNatClampNeg then none else
  (fw_let (fw_wr S0 b12 v4.toNatClampNeg none) (fun S20 =>
  F_ServingEnd_memoryFor_l45 n v0 (v4 + (1 : Int32)) S20)))) (fun b18 =>
  (if v4 < 0 ∨ fw_l S0 b12 ≤ v4.toNatClampNeg then none else
  (fw_let (fw_wr S0 b12 v4.toNatClampNeg (some b18)) (fun S22 =>
  F_ServingEnd_memoryFor_l45 n v0 (v4 + (1 : Int32)) S22))))))))))))))
def F_ServingEnd_memoryFor_j90x (v0 : Nat) (v3 : Nat) (S0 : fw_S) : Option ((Option Nat) × fw_S) :=
    (fw_let ((fw_g S0 v0 2) - (1 : Int32)) (fun x23 =>
  (if x23 < 0 then
  (some ((some v3), S0))
  else
  (fw_om (fw_r S0 v0 1) none (fun b24 =>
  (if (nI (fw_l S0 b24)) ≤ x23 then
  (some ((some v3), S0))
  else
  (fw_om (fw_r S0 v0 1) none (fun b25 =>
  (if x23 < 0 ∨ fw_l S0 b25 ≤ x23.toNatClampNeg then none else
  (fw_let (fw_wr S0 b25 x23.toNatClampNeg (some v3)) (fun S27 =>
  (some ((some v3), S27)))))))))))))
def F_ServingEnd_memoryFor_l45x : Nat → Nat → Nat → Int32 → fw_S → Option ((Option Nat) × fw_S)
  | 0, _, _, _, _ => none
  | n + 1, v0, v3, v4, S0 =>
    (if (fw_g S0 v0 2) ≤ (v4 + (1 : Int32)) then
  F_ServingEnd_memoryFor_j90x v0 v3 S0
  else
  (fw_om (fw_r S0 v0 1) none (fun b28 =>
  (if (nI (fw_l S0 b28)) ≤ (v4 + (1 : Int32)) then
  F_ServingEnd_memoryFor_j90x v0 v3 S0
  else
  (fw_om (fw_r S0 v0 1) ((fw_om (fw_r S0 v0 1) none (fun b30 =>
  (if (v4 + (1 : Int32)) < 0 ∨ fw_l S0 b30 ≤ (v4 + (1 : Int32)).toNatClampNeg then none else
  (fw_om (fw_r S0 b30 (v4 + (1 : Int32)).toNatClampNeg) none (fun b32 =>
  none)))))) (fun b29 =>
  (fw_om (fw_r S0 v0 1) none (fun b33 =>
  (if (v4 + (1 : Int32)) < 0 ∨ fw_l S0 b33 ≤ (v4 + (1 : Int32)).toNatClampNeg then none else
  (fw_om (fw_r S0 b33 (v4 + (1 : Int32)).toNatClampNeg) ((if v4 < 0 ∨ fw_l S0 b29 ≤ v4.toNatClampNeg then none else
  (fw_let (fw_wr S0 b29 v4.toNatClampNeg none) (fun S37 =>
  F_ServingEnd_memoryFor_l45x n v0 v3 (v4 + (1 : Int32)) S37)))) (fun b35 =>
  (if v4 < 0 ∨ fw_l S0 b29 ≤ v4.toNatClampNeg then none else
  (fw_let (fw_wr S0 b29 v4.toNatClampNeg (some b35)) (fun S39 =>
  F_ServingEnd_memoryFor_l45x n v0 v3 (v4 + (1 : Int32)) S39))))))))))))))
def F_ServingEnd_memoryFor (a0 : Nat) (p1 : Int32) (S0 : fw_S) : Option ((Option Nat) × fw_S) :=
  (Option.bind (F_ServingEnd_placeOf a0 p1 S0) (fun x1 =>
  (if 0 ≤ x1 then
  (Option.bind (F_ServingEnd_memoryAt a0 x1 S0) (fun o3 =>
  (fw_om o3 (F_ServingEnd_memoryFor_l45 4096 a0 x1 S0) (fun b5 =>
  F_ServingEnd_memoryFor_l45x 4096 a0 b5 x1 S0))))
  else
  (if (8 : Int32) ≤ (fw_g S0 a0 2) then
  (Option.bind (F_ServingEnd_memoryAt a0 (0 : Int32) S0) (fun o40 =>
  (fw_om o40 (F_ServingEnd_memoryFor_l45 4096 a0 (0 : Int32) S0) (fun b42 =>
  F_ServingEnd_memoryFor_l45x 4096 a0 b42 (0 : Int32) S0))))
  else
  (fw_let (fw_g S0 a0 2) (fun x43 =>
  (fw_let (fw_wi S0 a0 2 ((fw_g S0 a0 2) + (1 : Int32))) (fun S44 =>
  (Option.bind (F_ServingEnd_memoryAt a0 x43 S44) (fun o45 =>
  (fw_om o45 (F_ServingEnd_memoryFor_l45 4096 a0 x43 S44) (fun b47 =>
  F_ServingEnd_memoryFor_l45x 4096 a0 b47 x43 S44))))))))))))
def F_ServingEnd_remember_l50 (k39 : Nat → Nat → Nat → Int32 → fw_S → Option (fw_S)) : Nat → Nat → Nat → Nat → Int32 → Int32 → fw_S → Option (fw_S)
  | 0, _, _, _, _, _, _ => none
  | n + 1, v0, v1, v2, v3, v4, S0 =>
    (fw_om (fw_r S0 v0 0) none (fun b10 =>
  (if (fw_g S0 b10 2) ≤ v4 then
  k39 v0 v1 v2 (v3 + (1 : Int32)) S0
  else
  (fw_om (fw_r S0 v0 0) none (fun b11 =>
  (Option.bind (F_Pairs_keyAt b11 v4 S0) (fun x12 =>
  (Option.bind (F_Frame_byteAt v2 v3 S0) (fun x14 =>
  (if ¬ x12 = x14 then
  F_ServingEnd_remember_l50 k39 n v0 v1 v2 v3 (v4 + (1 : Int32)) S0
  else
  (fw_om (fw_r S0 v1 3) ((fw_om (fw_r S0 v0 0) none (fun b17 =>
  (Option.bind (F_Pairs_keyAt b17 v4 S0) (fun x18 =>
  (fw_om (fw_r S0 v0 0) none (fun b20 =>
  (Option.bind (F_Pairs_valueAt b20 v4 S0) (fun x21 =>
  none))))))))) (fun b16 =>
  (fw_om (fw_r S0 v0 0) none (fun b23 =>
  (Option.bind (F_Pairs_keyAt b23 v4 S0) (fun x24 =>
  (fw_om (fw_r S0 v0 0) none (fun b26 =>
  (Option.bind (F_Pairs_valueAt b26 v4 S0) (fun x27 =>
  (fw_b2 (F_Pairs_add b16 x24 x27 S0) (fun x30 S29 =>
  F_ServingEnd_remember_l50 k39 n v0 v1 v2 v3 (v4 + (1 : Int32)) S29))))))))))))))))))))))
def F_ServingEnd_remember_l39 : Nat → Nat → Nat → Nat → Int32 → fw_S → Option (fw_S)
  | 0, _, _, _, _, _ => none
  | n + 1, v0, v1, v2, v3, S0 =>
    (if (fw_g S0 v2 2) ≤ v3 then
  (some S0)
  else
  F_ServingEnd_remember_l50 (F_ServingEnd_remember_l39 n) 4096 v0 v1 v2 v3 (0 : Int32) S0)
def F_ServingEnd_remember (a0 : Nat) (p1 : Option Nat) (p2 : Nat) (S0 : fw_S) : Option (fw_S) :=
  (fw_om p1 (some S0) (fun b1 => (fw_let (fw_wi S0 b1 0 (fw_g S0 p2 1)) (fun S2 =>
  (Option.bind (F_Frame_byteAt p2 (0 : Int32) S2) (fun x3 =>
  (fw_let (fw_wi S2 b1 1 x3) (fun S5 =>
  (fw_let (fw_wi S5 b1 2 (fw_g S5 b1 1)) (fun S6 =>
  (fw_om (fw_r S6 b1 3) none (fun b7 =>
  (Option.bind (F_Pairs_clear b7 S6) (fun S8 =>
  F_ServingEnd_remember_l39 4096 a0 b1 p2 (1 : Int32) S8))))))))))))))
def F_ServingEnd_writeRows_l68 : Nat → Nat → Nat → Int32 → Int32 → fw_S → Option (fw_S)
  | 0, _, _, _, _, _ => none
  | n + 1, v0, v1, v4, v5, S0 =>
    (if v4 ≤ v5 then
  (some S0)
  else
  (fw_om (fw_r S0 v0 4) ((fw_om (fw_r S0 v1 3) none (fun b16 =>
  (Option.bind (F_Pairs_keyAt b16 v5 S0) (fun x17 =>
  none))))) (fun b15 =>
  (fw_om (fw_r S0 v1 3) none (fun b19 =>
  (Option.bind (F_Pairs_keyAt b19 v5 S0) (fun x20 =>
  (Option.bind (F_Frame_put b15 x20 S0) (fun S22 =>
  (fw_om (fw_r S22 v0 4) ((fw_om (fw_r S22 v1 3) none (fun b25 =>
  (Option.bind (F_Pairs_valueAt b25 v5 S22) (fun x26 =>
  none))))) (fun b24 =>
  (fw_om (fw_r S22 v1 3) none (fun b28 =>
  (Option.bind (F_Pairs_valueAt b28 v5 S22) (fun x29 =>
  (Option.bind (F_Frame_put b24 x29 S22) (fun S31 =>
  F_ServingEnd_writeRows_l68 n v0 v1 v4 (v5 + (1 : Int32)) S31)))))))))))))))))
def F_ServingEnd_writeRows (a0 : Nat) (p1 : Option Nat) (p2 : Int32) (p3 : Int32) (S0 : fw_S) : Option (fw_S) :=
  (fw_om p1 (some S0) (fun b1 => (fw_om (fw_r S0 b1 3) none (fun b2 =>
  (fw_let (if (fw_g S0 b2 2) < (p3 + (8 : Int32)) then (fw_g S0 b2 2) else (p3 + (8 : Int32))) (fun x3 =>
  (fw_om (fw_r S0 a0 4) none (fun b4 =>
  (Option.bind (F_Frame_begin b4 (2 : Int32) (fw_g S0 b1 0) S0) (fun S5 =>
  (fw_om (fw_r S5 a0 4) none (fun b7 =>
  (Option.bind (F_Frame_put b7 p2 S5) (fun S8 =>
  (fw_om (fw_r S8 a0 4) ((fw_om (fw_r S8 b1 3) none (fun b11 =>
  (if (fw_g S8 b11 2) ≤ x3 then
  none
  else
  none)))) (fun b10 =>
  (fw_om (fw_r S8 b1 3) none (fun b12 =>
  (if (fw_g S8 b12 2) ≤ x3 then
  (Option.bind (F_Frame_put b10 (0 : Int32) S8) (fun S13 =>
  F_ServingEnd_writeRows_l68 4096 a0 b1 x3 p3 S13))
  else
  (Option.bind (F_Frame_put b10 (1 : Int32) S8) (fun S33 =>
  F_ServingEnd_writeRows_l68 4096 a0 b1 x3 p3 S33)))))))))))))))))))))
def F_ServingEnd_answerAsk_j42 (v0 : Nat) (v1 : Nat) (S0 : fw_S) : Option (fw_S) :=
    (fw_b2 (F_ServingEnd_memoryFor v0 (fw_g S0 v1 1) S0) (fun o7 S6 =>
  (fw_om o7 ((Option.bind (F_ServingEnd_remember v0 none v1 S6) (fun S10 =>
  (Option.bind (F_Frame_byteAt v1 (0 : Int32) S10) (fun x12 =>
  (Option.bind (F_ServingEnd_writeRows v0 none x12 (0 : Int32) S10) (fun S14 =>
  (some S14)))))))) (fun b9 =>
  (Option.bind (F_ServingEnd_remember v0 (some b9) v1 S6) (fun S16 =>
  (Option.bind (F_Frame_byteAt v1 (0 : Int32) S16) (fun x18 =>
  (Option.bind (F_ServingEnd_writeRows v0 (some b9) x18 (0 : Int32) S16) (fun S20 =>
  (some S20)))))))))))
def F_ServingEnd_answerAsk (a0 : Nat) (p1 : Nat) (S0 : fw_S) : Option (fw_S) :=
  (Option.bind (F_ServingEnd_placeOf a0 (fw_g S0 p1 1) S0) (fun x1 =>
  (Option.bind (F_ServingEnd_memoryAt a0 x1 S0) (fun o3 =>
  (fw_om o3 (F_ServingEnd_answerAsk_j42 a0 p1 S0) (fun b5 =>
  (Option.bind (F_Frame_byteAt p1 (0 : Int32) S0) (fun x22 =>
  (if ¬ (fw_g S0 b5 1) = x22 then
  F_ServingEnd_answerAsk_j42 a0 p1 S0
  else
  (fw_let (fw_wi S0 a0 3 ((fw_g S0 a0 3) + (1 : Int32))) (fun S24 =>
  (Option.bind (F_Frame_byteAt p1 (0 : Int32) S24) (fun x25 =>
  (Option.bind (F_ServingEnd_writeRows a0 (some b5) x25 (0 : Int32) S24) (fun S27 =>
  (some S27))))))))))))))))
def F_ServingEnd_answerMore_j64 (v0 : Nat) (v1 : Nat) (v3 : Int32) (S0 : fw_S) : Option (fw_S) :=
    (fw_om (fw_r S0 v0 4) none (fun b10 =>
  (Option.bind (F_Frame_begin b10 (4 : Int32) (fw_g S0 v1 1) S0) (fun S11 =>
  (fw_om (fw_r S11 v0 4) none (fun b13 =>
  (Option.bind (F_Frame_put b13 v3 S11) (fun S14 =>
  (some S14)))))))))
def F_ServingEnd_answerMore (a0 : Nat) (p1 : Nat) (S0 : fw_S) : Option (fw_S) :=
  (Option.bind (F_ServingEnd_placeOf a0 (fw_g S0 p1 1) S0) (fun x1 =>
  (Option.bind (F_ServingEnd_memoryAt a0 x1 S0) (fun o3 =>
  (fw_om o3 ((Option.bind (F_Frame_byteAt p1 (0 : Int32) S0) (fun x6 =>
  (Option.bind (F_Frame_byteAt p1 (1 : Int32) S0) (fun x8 =>
  F_ServingEnd_answerMore_j64 a0 p1 x6 S0))))) (fun b5 =>
  (Option.bind (F_Frame_byteAt p1 (0 : Int32) S0) (fun x16 =>
  (Option.bind (F_Frame_byteAt p1 (1 : Int32) S0) (fun x18 =>
  (fw_om (fw_r S0 b5 3) none (fun b20 =>
  (if (fw_g S0 b20 2) < x18 then
  F_ServingEnd_answerMore_j64 a0 p1 x16 S0
  else
  (if x16 = (fw_g S0 b5 2) then
  (fw_let (fw_wi S0 b5 2 x16) (fun S21 =>
  (Option.bind (F_ServingEnd_writeRows a0 (some b5) x16 x18 S21) (fun S22 =>
  (some S22)))))
  else
  (if x16 = (((fw_g S0 b5 2) + (1 : Int32)) &&& (255 : Int32)) then
  (fw_let (fw_wi S0 b5 2 x16) (fun S24 =>
  (Option.bind (F_ServingEnd_writeRows a0 (some b5) x16 x18 S24) (fun S25 =>
  (some S25)))))
  else
  F_ServingEnd_answerMore_j64 a0 p1 x16 S0)))))))))))))))
def F_Wire_init (a0 : Nat) (p1 : Int32) (S0 : fw_S) : Option (fw_S) :=
  (fw_let (fw_z S0) (fun b2 => (fw_let (fw_nw S0 (300 : Int32).toNatClampNeg) (fun S1 =>
  (fw_let (fw_wr S1 a0 1 (some b2)) (fun S4 =>
  (fw_let (fw_wi S4 a0 2 (0 : Int32)) (fun S5 =>
  (fw_let (fw_wi S5 a0 3 (0 : Int32)) (fun S6 =>
  (fw_let (fw_z S6) (fun b8 => (fw_let (fw_nw S6 0) (fun S7 =>
  (Option.bind (F_Frame_init b8 S7) (fun S10 =>
  (fw_let (fw_wr S10 a0 4 (some b8)) (fun S12 =>
  (fw_let (fw_wi S12 a0 5 (0 : Int32)) (fun S13 =>
  (fw_let (fw_wi S13 a0 6 (0 : Int32)) (fun S14 =>
  (if p1 = 0 ∨ p1 = 1 then
  (fw_let (fw_wi S14 a0 0 p1) (fun S16 =>
  (some S16)))
  else none)))))))))))))))))))))))
def F_Wire_clearOut (a0 : Nat) (S0 : fw_S) : Option (fw_S) :=
  (fw_let (fw_wi S0 a0 2 (0 : Int32)) (fun S1 =>
  (fw_let (fw_wi S1 a0 3 (0 : Int32)) (fun S2 =>
  (some S2)))))
def F_Wire_end (a0 : Nat) (S0 : fw_S) : Option (fw_S) :=
  (fw_let (fw_wi S0 a0 0 (0 : Int32)) (fun S1 =>
  (fw_let (fw_wi S1 a0 5 (0 : Int32)) (fun S2 =>
  (Option.bind (F_Wire_clearOut a0 S2) (fun S3 =>
  (some S3)))))))
def F_Wire_push (a0 : Nat) (p1 : Int32) (S0 : fw_S) : Option (fw_S) :=
  (fw_let (((fw_g S0 a0 2) + (fw_g S0 a0 3)) - ((fw_g S0 a0 2) + (fw_g S0 a0 3)) / (300 : Int32) * (300 : Int32)) (fun x1 =>
  (if (300 : Int32) ≤ (fw_g S0 a0 3) then
  (some S0)
  else
  (if x1 < 0 then
  (some S0)
  else
  (fw_om (fw_r S0 a0 1) none (fun b2 =>
  (if (nI (fw_l S0 b2)) ≤ x1 then
  (some S0)
  else
  (fw_om (fw_r S0 a0 1) none (fun b3 =>
  (if x1 < 0 ∨ fw_l S0 b3 ≤ x1.toNatClampNeg then none else
  (fw_let (fw_wi S0 b3 x1.toNatClampNeg p1) (fun S5 =>
  (fw_let (fw_wi S5 a0 3 ((fw_g S5 a0 3) + (1 : Int32))) (fun S6 =>
  (some S6)))))))))))))))
def F_Wire_takeFirst (a0 : Nat) (S0 : fw_S) : Option (Int32 × fw_S) :=
  (if (fw_g S0 a0 3) ≤ 0 then
  (some ((-2 : Int32), S0))
  else
  (if (fw_g S0 a0 2) < 0 then
  (some ((-2 : Int32), S0))
  else
  (fw_om (fw_r S0 a0 1) none (fun b1 =>
  (if (fw_g S0 a0 2) < (nI (fw_l S0 b1)) then
  (fw_om (fw_r S0 a0 1) none (fun b2 =>
  (if (fw_g S0 a0 2) < 0 ∨ fw_l S0 b2 ≤ (fw_g S0 a0 2).toNatClampNeg then none else
  (fw_let (fw_g S0 b2 (fw_g S0 a0 2).toNatClampNeg) (fun x4 =>
  (fw_let (fw_wi S0 a0 2 (((fw_g S0 a0 2) + (1 : Int32)) - ((fw_g S0 a0 2) + (1 : Int32)) / (300 : Int32) * (300 : Int32))) (fun S5 =>
  (fw_let (fw_wi S5 a0 3 ((fw_g S5 a0 3) - (1 : Int32))) (fun S6 =>
  (some (x4, S6)))))))))))
  else
  (some ((-2 : Int32), S0)))))))
def F_Wire_lengthSuits (a0 : Nat) (p1 : Int32) (S0 : fw_S) : Option (Int32) :=
  (fw_om (fw_r S0 a0 4) none (fun b1 =>
  (if (fw_g S0 b1 0) = (1 : Int32) then
  (if p1 < (2 : Int32) then
  (some (0 : Int32))
  else
  (if (9 : Int32) < p1 then
  (some (0 : Int32))
  else
  (some (1 : Int32))))
  else
  (if (fw_g S0 b1 0) = (2 : Int32) then
  (if p1 < (2 : Int32) then
  (some (0 : Int32))
  else
  (if (18 : Int32) < p1 then
  (some (0 : Int32))
  else
  (if ¬ (p1 &&& (1 : Int32)) = 0 then
  (some (0 : Int32))
  else
  (some (1 : Int32)))))
  else
  (if (fw_g S0 b1 0) = (3 : Int32) then
  (if ¬ p1 = (2 : Int32) then
  (some (0 : Int32))
  else
  (some (1 : Int32)))
  else
  (if (fw_g S0 b1 0) = (4 : Int32) then
  (if ¬ p1 = (1 : Int32) then
  (some (0 : Int32))
  else
  (some (1 : Int32)))
  else
  (some (0 : Int32))))))))
def F_Wire_suits (a0 : Nat) (p1 : Int32) (S0 : fw_S) : Option (Int32) :=
  (if (fw_g S0 a0 5) = (0 : Int32) then
  (if ¬ p1 = (126 : Int32) then
  (some (0 : Int32))
  else
  (some (1 : Int32)))
  else
  (if (fw_g S0 a0 5) = (1 : Int32) then
  (if p1 < (1 : Int32) then
  (some (0 : Int32))
  else
  (if (4 : Int32) < p1 then
  (some (0 : Int32))
  else
  (some (1 : Int32))))
  else
  (if (fw_g S0 a0 5) = (2 : Int32) then
  (some (1 : Int32))
  else
  (if (fw_g S0 a0 5) = (3 : Int32) then
  (Option.bind (F_Wire_lengthSuits a0 p1 S0) (fun x1 =>
  (if x1 = 0 ∨ x1 = 1 then some x1 else none)))
  else
  (if ¬ (fw_g S0 a0 5) = ((4 : Int32) + (fw_g S0 a0 6)) then
  (fw_om (fw_r S0 a0 4) none (fun b4 =>
  (if ¬ (fw_g S0 b4 0) = (2 : Int32) then
  (some (1 : Int32))
  else
  (if ¬ (fw_g S0 a0 5) = (5 : Int32) then
  (some (1 : Int32))
  else
  (if (1 : Int32) < p1 then
  (some (0 : Int32))
  else
  (some (1 : Int32)))))))
  else
  (fw_om (fw_r S0 a0 4) none (fun b5 =>
  (Option.bind (F_Frame_sum b5 S0) (fun x6 =>
  (if ¬ p1 = x6 then
  (some (0 : Int32))
  else
  (some (1 : Int32))))))))))))
def F_Wire_keep (a0 : Nat) (p1 : Int32) (S0 : fw_S) : Option (fw_S) :=
  (if (fw_g S0 a0 5) = (0 : Int32) then
  (fw_let (fw_wi S0 a0 6 (0 : Int32)) (fun S1 =>
  (some S1)))
  else
  (if (fw_g S0 a0 5) = (1 : Int32) then
  (fw_om (fw_r S0 a0 4) none (fun b2 =>
  (Option.bind (F_Frame_begin b2 p1 (0 : Int32) S0) (fun S3 =>
  (some S3)))))
  else
  (if (fw_g S0 a0 5) = (2 : Int32) then
  (fw_om (fw_r S0 a0 4) none (fun b5 =>
  (fw_let (fw_wi S0 b5 1 p1) (fun S6 =>
  (some S6)))))
  else
  (if (fw_g S0 a0 5) = (3 : Int32) then
  (fw_let (fw_wi S0 a0 6 p1) (fun S7 =>
  (some S7)))
  else
  (if ((4 : Int32) + (fw_g S0 a0 6)) ≤ (fw_g S0 a0 5) then
  (some S0)
  else
  (fw_om (fw_r S0 a0 4) none (fun b8 =>
  (Option.bind (F_Frame_put b8 p1 S0) (fun S9 =>
  (some S9))))))))))
def F_Wire_accept (a0 : Nat) (p1 : Int32) (S0 : fw_S) : Option (Int32 × fw_S) :=
  (Option.bind (F_Wire_suits a0 p1 S0) (fun x1 =>
  (if ¬ x1 = 0 then
  (Option.bind (F_Wire_keep a0 p1 S0) (fun S3 =>
  (fw_let (fw_wi S3 a0 5 ((fw_g S3 a0 5) + (1 : Int32))) (fun S5 =>
  (if ((4 : Int32) + (fw_g S5 a0 6)) < (fw_g S5 a0 5) then
  (fw_let (fw_wi S5 a0 5 (0 : Int32)) (fun S6 =>
  (some ((1 : Int32), S6))))
  else
  (some ((0 : Int32), S5)))))))
  else
  (some ((-10 : Int32), S0)))))
set_option maxRecDepth 100000 in
def F_FW_init (a0 : Nat) (S0 : fw_S) : Option (fw_S) :=
  (fw_let (fw_z S0) (fun b2 => (fw_let (fw_nw S0 (5 : Int32).toNatClampNeg) (fun S1 =>
  (fw_let (fw_wr S1 a0 0 (some b2)) (fun S4 =>
  (fw_let (fw_z S4) (fun b6 => (fw_let (fw_nw S4 (24 : Int32).toNatClampNeg) (fun S5 =>
  (fw_let (fw_wr S5 a0 1 (some b6)) (fun S8 =>
  (fw_let (fw_wi S8 a0 2 (0 : Int32)) (fun S9 =>
  (fw_let (fw_z S9) (fun b11 => (fw_let (fw_nw S9 0) (fun S10 =>
  (Option.bind (F_Pairs_init b11 (20 : Int32) S10) (fun S13 =>
  (fw_let (fw_wr S13 a0 3 (some b11)) (fun S15 =>
  (fw_let (fw_z S15) (fun b17 => (fw_let (fw_nw S15 0) (fun S16 =>
  (Option.bind (F_ServingEnd_init b17 S16) (fun S19 =>
  (fw_let (fw_wr S19 a0 4 (some b17)) (fun S21 =>
  (fw_let (fw_z S21) (fun b23 => (fw_let (fw_nw S21 (4 : Int32).toNatClampNeg) (fun S22 =>
  (fw_let (fw_wr S22 a0 5 (some b23)) (fun S25 =>
  (fw_let (fw_z S25) (fun b27 => (fw_let (fw_nw S25 (4 : Int32).toNatClampNeg) (fun S26 =>
  (fw_let (fw_wr S26 a0 6 (some b27)) (fun S29 =>
  (fw_let (fw_wi S29 a0 7 (4 : Int32)) (fun S30 =>
  (fw_let (fw_wi S30 a0 8 (10 : Int32)) (fun S31 =>
  (fw_let (fw_wi S31 a0 9 (2 : Int32)) (fun S32 =>
  (fw_let (fw_wi S32 a0 10 (0 : Int32)) (fun S33 =>
  (fw_let (fw_wi S33 a0 11 (0 : Int32)) (fun S34 =>
  (fw_let (fw_wi S34 a0 12 (0 : Int32)) (fun S35 =>
  (fw_om (fw_r S35 a0 0) ((fw_let (fw_z S35) (fun b38 => (fw_let (fw_nw S35 0) (fun S37 =>
  (Option.bind (F_Wire_init b38 (0 : Int32) S37) (fun S40 =>
  none))))))) (fun b36 =>
  (fw_let (fw_z S35) (fun b43 => (fw_let (fw_nw S35 0) (fun S42 =>
  (Option.bind (F_Wire_init b43 (0 : Int32) S42) (fun S45 =>
  (if (0 : Int32) < 0 ∨ fw_l S45 b36 ≤ (0 : Int32).toNatClampNeg then none else
  (fw_let (fw_wr S45 b36 (0 : Int32).toNatClampNeg (some b43)) (fun S48 =>
  (fw_om (fw_r S48 a0 0) ((fw_let (fw_z S48) (fun b51 => (fw_let (fw_nw S48 0) (fun S50 =>
  (Option.bind (F_Wire_init b51 (0 : Int32) S50) (fun S53 =>
  none))))))) (fun b49 =>
  (fw_let (fw_z S48) (fun b56 => (fw_let (fw_nw S48 0) (fun S55 =>
  (Option.bind (F_Wire_init b56 (0 : Int32) S55) (fun S58 =>
  (if (1 : Int32) < 0 ∨ fw_l S58 b49 ≤ (1 : Int32).toNatClampNeg then none else
  (fw_let (fw_wr S58 b49 (1 : Int32).toNatClampNeg (some b56)) (fun S61 =>
  (fw_om (fw_r S61 a0 0) ((fw_let (fw_z S61) (fun b64 => (fw_let (fw_nw S61 0) (fun S63 =>
  (Option.bind (F_Wire_init b64 (0 : Int32) S63) (fun S66 =>
  none))))))) (fun b62 =>
  (fw_let (fw_z S61) (fun b69 => (fw_let (fw_nw S61 0) (fun S68 =>
  (Option.bind (F_Wire_init b69 (0 : Int32) S68) (fun S71 =>
  (if (2 : Int32) < 0 ∨ fw_l S71 b62 ≤ (2 : Int32).toNatClampNeg then none else
  (fw_let (fw_wr S71 b62 (2 : Int32).toNatClampNeg (some b69)) (fun S74 =>
  (fw_om (fw_r S74 a0 0) ((fw_let (fw_z S74) (fun b77 => (fw_let (fw_nw S74 0) (fun S76 =>
  (Option.bind (F_Wire_init b77 (0 : Int32) S76) (fun S79 =>
  none))))))) (fun b75 =>
  (fw_let (fw_z S74) (fun b82 => (fw_let (fw_nw S74 0) (fun S81 =>
  (Option.bind (F_Wire_init b82 (0 : Int32) S81) (fun S84 =>
  (if (3 : Int32) < 0 ∨ fw_l S84 b75 ≤ (3 : Int32).toNatClampNeg then none else
  (fw_let (fw_wr S84 b75 (3 : Int32).toNatClampNeg (some b82)) (fun S87 =>
  (fw_om (fw_r S87 a0 0) ((fw_let (fw_z S87) (fun b90 => (fw_let (fw_nw S87 0) (fun S89 =>
  (Option.bind (F_Wire_init b90 (1 : Int32) S89) (fun S92 =>
  none))))))) (fun b88 =>
  (fw_let (fw_z S87) (fun b95 => (fw_let (fw_nw S87 0) (fun S94 =>
  (Option.bind (F_Wire_init b95 (1 : Int32) S94) (fun S97 =>
  (if (4 : Int32) < 0 ∨ fw_l S97 b88 ≤ (4 : Int32).toNatClampNeg then none else
  (fw_let (fw_wr S97 b88 (4 : Int32).toNatClampNeg (some b95)) (fun S100 =>
  (fw_om (fw_r S100 a0 5) none (fun b101 =>
  (if (0 : Int32) < 0 ∨ fw_l S100 b101 ≤ (0 : Int32).toNatClampNeg then none else
  (fw_let (fw_wi S100 b101 (0 : Int32).toNatClampNeg (1000 : Int32)) (fun S103 =>
  (fw_om (fw_r S103 a0 5) none (fun b104 =>
  (if (1 : Int32) < 0 ∨ fw_l S103 b104 ≤ (1 : Int32).toNatClampNeg then none else
  (fw_let (fw_wi S103 b104 (1 : Int32).toNatClampNeg (1000 : Int32)) (fun S106 =>
  (fw_om (fw_r S106 a0 5) none (fun b107 =>
  (if (2 : Int32) < 0 ∨ fw_l S106 b107 ≤ (2 : Int32).toNatClampNeg then none else
  (fw_let (fw_wi S106 b107 (2 : Int32).toNatClampNeg (1000 : Int32)) (fun S109 =>
  (fw_om (fw_r S109 a0 5) none (fun b110 =>
  (if (3 : Int32) < 0 ∨ fw_l S109 b110 ≤ (3 : Int32).toNatClampNeg then none else
  (fw_let (fw_wi S109 b110 (3 : Int32).toNatClampNeg (1000 : Int32)) (fun S112 =>
  (some S112))))))))))))))))))))))))))))))))))))))))))))))))))))))))))))))))))))))))))))))))))))))))))))))))))))))))))))))))))))))))))))))))))
def F_FW_wireAt (a0 : Nat) (p1 : Int32) (S0 : fw_S) : Option (Option Nat) :=
  (if p1 < 0 then
  (some none)
  else
  (fw_om (fw_r S0 a0 0) none (fun b1 =>
  (if (nI (fw_l S0 b1)) ≤ p1 then
  (some none)
  else
  (fw_om (fw_r S0 a0 0) none (fun b2 =>
  (if p1 < 0 ∨ fw_l S0 b2 ≤ p1.toNatClampNeg then none else
  (fw_om (fw_r S0 b2 p1.toNatClampNeg) (some none) (fun b4 =>
  (some (some b4)))))))))))
def F_FW_houseWire (a0 : Nat) (p1 : Int32) (S0 : fw_S) : Option (Option Nat) :=
  (if (4 : Int32) ≤ p1 then
  (some none)
  else
  (Option.bind (F_FW_wireAt a0 p1 S0) (fun o1 =>
  (fw_om o1 (some none) (fun b3 =>
  (some (some b3)))))))
def F_FW_requestAt (a0 : Nat) (p1 : Int32) (S0 : fw_S) : Option (Option Nat) :=
  (if p1 < 0 then
  (some none)
  else
  (if (fw_g S0 a0 2) ≤ p1 then
  (some none)
  else
  (fw_om (fw_r S0 a0 1) none (fun b1 =>
  (if (nI (fw_l S0 b1)) ≤ p1 then
  (some none)
  else
  (fw_om (fw_r S0 a0 1) none (fun b2 =>
  (if p1 < 0 ∨ fw_l S0 b2 ≤ p1.toNatClampNeg then none else
  (fw_om (fw_r S0 b2 p1.toNatClampNeg) (some none) (fun b4 =>
  (some (some b4))))))))))))
def F_Wire_send_l60 : Nat → Nat → Nat → Int32 → fw_S → Option (Int32 × fw_S)
  | 0, _, _, _, _ => none
  | n + 1, v0, v1, v2, S0 =>
    (if (fw_g S0 v1 2) ≤ v2 then
  (Option.bind (F_Frame_sum v1 S0) (fun x10 =>
  (Option.bind (F_Wire_push v0 x10 S0) (fun S12 =>
  (some ((1 : Int32), S12))))))
  else
  (Option.bind (F_Frame_byteAt v1 v2 S0) (fun x14 =>
  (Option.bind (F_Wire_push v0 x14 S0) (fun S16 =>
  F_Wire_send_l60 n v0 v1 (v2 + (1 : Int32)) S16)))))
def F_Wire_send (a0 : Nat) (p1 : Option Nat) (S0 : fw_S) : Option (Int32 × fw_S) :=
  (fw_om p1 ((if (fw_g S0 a0 0) = 0 then
  (some ((0 : Int32), S0))
  else
  none)) (fun b1 => (if (fw_g S0 a0 0) = 0 then
  (some ((0 : Int32), S0))
  else
  (if ((((fw_g S0 a0 3) + (4 : Int32)) + (fw_g S0 b1 2)) + (1 : Int32)) ≤ (300 : Int32) then
  (Option.bind (F_Wire_push a0 (126 : Int32) S0) (fun S2 =>
  (Option.bind (F_Wire_push a0 (fw_g S2 b1 0) S2) (fun S4 =>
  (Option.bind (F_Wire_push a0 (fw_g S4 b1 1) S4) (fun S6 =>
  (Option.bind (F_Wire_push a0 (fw_g S6 b1 2) S6) (fun S8 =>
  F_Wire_send_l60 4096 a0 b1 (0 : Int32) S8))))))))
  else
  (some ((0 : Int32), S0))))))
def F_FW_send (a0 : Nat) (p1 : Option Nat) (p2 : Nat) (S0 : fw_S) : Option (Int32 × fw_S) :=
  (fw_om p1 ((fw_b2 (F_Wire_send p2 none S0) (fun x3 S2 =>
  (if ¬ x3 = 0 then
  (if x3 = 0 ∨ x3 = 1 then some (x3, S2) else none)
  else
  (fw_let (fw_wi S2 a0 12 ((fw_g S2 a0 12) + (1 : Int32))) (fun S6 =>
  (if x3 = 0 ∨ x3 = 1 then some (x3, S6) else none))))))) (fun b1 => (fw_b2 (F_Wire_send p2 (some b1) S0) (fun x9 S8 =>
  (if ¬ x9 = 0 then
  (if x9 = 0 ∨ x9 = 1 then some (x9, S8) else none)
  else
  (fw_let (fw_wi S8 a0 12 ((fw_g S8 a0 12) + (1 : Int32))) (fun S12 =>
  (if x9 = 0 ∨ x9 = 1 then some (x9, S12) else none))))))))
def F_FW_sendFirst (a0 : Nat) (p1 : Nat) (p2 : Nat) (S0 : fw_S) : Option (Int32 × fw_S) :=
  (fw_let (fw_wi S0 p1 12 (fw_g S0 a0 10)) (fun S1 =>
  (fw_let (fw_wi S1 p1 13 (0 : Int32)) (fun S2 =>
  (fw_om (fw_r S2 p1 9) ((fw_b2 (F_FW_send a0 none p2 S2) (fun x5 S4 =>
  (if x5 = 0 ∨ x5 = 1 then some (x5, S4) else none)))) (fun b3 =>
  (fw_b2 (F_FW_send a0 (some b3) p2 S2) (fun x9 S8 =>
  (if x9 = 0 ∨ x9 = 1 then some (x9, S8) else none)))))))))
def F_FW_up_l32 : Nat → Nat → Int32 → Nat → Int32 → Int32 → fw_S → Option (Int32 × fw_S)
  | 0, _, _, _, _, _, _ => none
  | n + 1, v0, v1, v2, v3, v4, S0 =>
    (if (fw_g S0 v0 2) ≤ v4 then
  (some (v3, S0))
  else
  (Option.bind (F_FW_requestAt v0 v4 S0) (fun o5 =>
  (fw_om o5 (F_FW_up_l32 n v0 v1 v2 v3 (v4 + (1 : Int32)) S0) (fun b7 =>
  (if ¬ (fw_g S0 b7 0) = v1 then
  F_FW_up_l32 n v0 v1 v2 v3 (v4 + (1 : Int32)) S0
  else
  (if ¬ (fw_g S0 b7 14) = 0 then
  F_FW_up_l32 n v0 v1 v2 v3 (v4 + (1 : Int32)) S0
  else
  (fw_b2 (F_FW_sendFirst v0 b7 v2 S0) (fun x9 S8 =>
  (if x9 = 0 then
  F_FW_up_l32 n v0 v1 v2 v3 (v4 + (1 : Int32)) S8
  else
  F_FW_up_l32 n v0 v1 v2 (v3 + (1 : Int32)) (v4 + (1 : Int32)) S8))))))))))
def F_FW_up (a0 : Nat) (p1 : Int32) (S0 : fw_S) : Option (Int32 × fw_S) :=
  (Option.bind (F_FW_houseWire a0 p1 S0) (fun o1 =>
  (fw_om o1 (some ((-1 : Int32), S0)) (fun b3 =>
  (if (fw_g S0 b3 0) = 0 then
  (fw_let (fw_wi S0 b3 0 (1 : Int32)) (fun S4 =>
  F_FW_up_l32 4096 a0 p1 b3 (0 : Int32) (0 : Int32) S4))
  else
  (some ((-2 : Int32), S0)))))))
def F_FW_down (a0 : Nat) (p1 : Int32) (S0 : fw_S) : Option (Int32 × fw_S) :=
  (Option.bind (F_FW_houseWire a0 p1 S0) (fun o1 =>
  (fw_om o1 (some ((-1 : Int32), S0)) (fun b3 =>
  (if ¬ (fw_g S0 b3 0) = 0 then
  (Option.bind (F_Wire_end b3 S0) (fun S4 =>
  (some ((1 : Int32), S4))))
  else
  (some ((-2 : Int32), S0)))))))
def F_FW_setting_j57 (v0 : Nat) (v1 : Int32) (v2 : Int32) (S0 : fw_S) : Option (Int32 × fw_S) :=
    (if ¬ v1 = (2 : Int32) then
  (some ((-1 : Int32), S0))
  else
  (if v2 < 0 then
  (some ((-1 : Int32), S0))
  else
  (if (5 : Int32) < v2 then
  (some ((-1 : Int32), S0))
  else
  (fw_let (fw_g S0 v0 9) (fun x1 =>
  (fw_let (fw_wi S0 v0 9 v2) (fun S2 =>
  (some (x1, S2)))))))))
def F_FW_setting_j28 (v0 : Nat) (v1 : Int32) (v2 : Int32) (S0 : fw_S) : Option (Int32 × fw_S) :=
    (if ¬ v1 = (1 : Int32) then
  F_FW_setting_j57 v0 v1 v2 S0
  else
  (if v2 < (1 : Int32) then
  F_FW_setting_j57 v0 v1 v2 S0
  else
  (if (100 : Int32) < v2 then
  F_FW_setting_j57 v0 v1 v2 S0
  else
  (fw_let (fw_g S0 v0 8) (fun x3 =>
  (fw_let (fw_wi S0 v0 8 v2) (fun S4 =>
  (some (x3, S4)))))))))
def F_FW_setting (a0 : Nat) (p1 : Int32) (p2 : Int32) (S0 : fw_S) : Option (Int32 × fw_S) :=
  (if ¬ p1 = 0 then
  F_FW_setting_j28 a0 p1 p2 S0
  else
  (if p2 < (1 : Int32) then
  F_FW_setting_j28 a0 p1 p2 S0
  else
  (if (8 : Int32) < p2 then
  F_FW_setting_j28 a0 p1 p2 S0
  else
  (fw_let (fw_g S0 a0 7) (fun x5 =>
  (fw_let (fw_wi S0 a0 7 p2) (fun S6 =>
  (some (x5, S6)))))))))
def F_FW_isByte (p0 : Int32) (S0 : fw_S) : Option (Int32) :=
  (if p0 < 0 then
  (some (0 : Int32))
  else
  (if (255 : Int32) < p0 then
  (some (0 : Int32))
  else
  (some (1 : Int32))))
def F_FW_bind (a0 : Nat) (p1 : Int32) (p2 : Int32) (S0 : fw_S) : Option (Int32 × fw_S) :=
  (Option.bind (F_FW_isByte p1 S0) (fun x1 =>
  (if ¬ x1 = 0 then
  (fw_om (fw_r S0 a0 3) none (fun b3 =>
  (fw_b2 (F_Pairs_add b3 p1 p2 S0) (fun x5 S4 =>
  (if x5 = 0 then
  (some ((-3 : Int32), S4))
  else
  (fw_om (fw_r S4 a0 3) none (fun b7 =>
  (some ((fw_g S4 b7 2), S4)))))))))
  else
  (some ((-1 : Int32), S0)))))
def F_Request_init_l123 : Nat → Nat → Nat → Int32 → fw_S → Option (fw_S)
  | 0, _, _, _, _ => none
  | n + 1, v0, v5, v6, S0 =>
    (if (fw_g S0 v5 2) ≤ v6 then
  (some S0)
  else
  (fw_om (fw_r S0 v0 3) ((Option.bind (F_Pairs_keyAt v5 v6 S0) (fun x67 =>
  (Option.bind (F_Pairs_valueAt v5 v6 S0) (fun x69 =>
  none))))) (fun b66 =>
  (Option.bind (F_Pairs_keyAt v5 v6 S0) (fun x71 =>
  (Option.bind (F_Pairs_valueAt v5 v6 S0) (fun x73 =>
  (fw_b2 (F_Pairs_add b66 x71 x73 S0) (fun x76 S75 =>
  (Option.bind (F_Pairs_keyAt v5 v6 S75) (fun x78 =>
  (Option.bind (F_Request_addKey v0 x78 S75) (fun S80 =>
  F_Request_init_l123 n v0 v5 (v6 + (1 : Int32)) S80)))))))))))))
def F_Request_init (a0 : Nat) (p1 : Int32) (p2 : Int32) (p3 : Int32) (p4 : Int32) (p5 : Option Nat) (S0 : fw_S) : Option (fw_S) :=
  (fw_om p5 ((fw_let (fw_wi S0 a0 5 (0 : Int32)) (fun S2 =>
  (fw_let (fw_wi S2 a0 6 (0 : Int32)) (fun S3 =>
  (fw_let (fw_z S3) (fun b5 => (fw_let (fw_nw S3 0) (fun S4 =>
  (Option.bind (F_Pairs_init b5 (60 : Int32) S4) (fun S7 =>
  (fw_let (fw_wr S7 a0 7 (some b5)) (fun S9 =>
  (fw_let (fw_wi S9 a0 8 (0 : Int32)) (fun S10 =>
  (fw_let (fw_z S10) (fun b12 => (fw_let (fw_nw S10 0) (fun S11 =>
  (Option.bind (F_Frame_init b12 S11) (fun S14 =>
  (fw_let (fw_wr S14 a0 9 (some b12)) (fun S16 =>
  (fw_let (fw_wi S16 a0 11 (-1 : Int32)) (fun S17 =>
  (fw_let (fw_wi S17 a0 12 (0 : Int32)) (fun S18 =>
  (fw_let (fw_wi S18 a0 13 (0 : Int32)) (fun S19 =>
  (fw_let (fw_wi S19 a0 14 (0 : Int32)) (fun S20 =>
  (fw_let (fw_wi S20 a0 15 (0 : Int32)) (fun S21 =>
  (fw_let (fw_wi S21 a0 10 p1) (fun S22 =>
  (fw_let (fw_wi S22 a0 0 p2) (fun S23 =>
  (if p3 = 0 ∨ p3 = 1 then
  (fw_let (fw_wi S23 a0 1 p3) (fun S25 =>
  (fw_let (fw_wi S25 a0 2 p4) (fun S26 =>
  (fw_let (fw_z S26) (fun b28 => (fw_let (fw_nw S26 0) (fun S27 =>
  none))))))))
  else none)))))))))))))))))))))))))))))))))))))) (fun b1 => (fw_let (fw_wi S0 a0 5 (0 : Int32)) (fun S30 =>
  (fw_let (fw_wi S30 a0 6 (0 : Int32)) (fun S31 =>
  (fw_let (fw_z S31) (fun b33 => (fw_let (fw_nw S31 0) (fun S32 =>
  (Option.bind (F_Pairs_init b33 (60 : Int32) S32) (fun S35 =>
  (fw_let (fw_wr S35 a0 7 (some b33)) (fun S37 =>
  (fw_let (fw_wi S37 a0 8 (0 : Int32)) (fun S38 =>
  (fw_let (fw_z S38) (fun b40 => (fw_let (fw_nw S38 0) (fun S39 =>
  (Option.bind (F_Frame_init b40 S39) (fun S42 =>
  (fw_let (fw_wr S42 a0 9 (some b40)) (fun S44 =>
  (fw_let (fw_wi S44 a0 11 (-1 : Int32)) (fun S45 =>
  (fw_let (fw_wi S45 a0 12 (0 : Int32)) (fun S46 =>
  (fw_let (fw_wi S46 a0 13 (0 : Int32)) (fun S47 =>
  (fw_let (fw_wi S47 a0 14 (0 : Int32)) (fun S48 =>
  (fw_let (fw_wi S48 a0 15 (0 : Int32)) (fun S49 =>
  (fw_let (fw_wi S49 a0 10 p1) (fun S50 =>
  (fw_let (fw_wi S50 a0 0 p2) (fun S51 =>
  (if p3 = 0 ∨ p3 = 1 then
  (fw_let (fw_wi S51 a0 1 p3) (fun S53 =>
  (fw_let (fw_wi S53 a0 2 p4) (fun S54 =>
  (fw_let (fw_z S54) (fun b56 => (fw_let (fw_nw S54 0) (fun S55 =>
  (Option.bind (F_Pairs_init b56 (fw_g S55 b1 2) S55) (fun S58 =>
  (fw_let (fw_wr S58 a0 3 (some b56)) (fun S60 =>
  (if (if (fw_g S60 b1 2) < (0 : Int32) then (0 : Int32) else (fw_g S60 b1 2)) < 0 ∨ 64 < (if (fw_g S60 b1 2) < (0 : Int32) then (0 : Int32) else (fw_g S60 b1 2)).toNatClampNeg then none else
  (fw_let (fw_z S60) (fun b63 => (fw_let (fw_nw S60 (if (fw_g S60 b1 2) < (0 : Int32) then (0 : Int32) else (fw_g S60 b1 2)).toNatClampNeg) (fun S62 =>
  (fw_let (fw_wr S62 a0 4 (some b63)) (fun S65 =>
  F_Request_init_l123 4096 a0 b1 (0 : Int32) S65)))))))))))))))))))
  else none)))))))))))))))))))))))))))))))))))))))
def F_FW_ask (a0 : Nat) (p1 : Int32) (p2 : Int32) (S0 : fw_S) : Option (Int32 × fw_S) :=
  (Option.bind (F_FW_houseWire a0 p1 S0) (fun o1 =>
  (fw_om o1 (some ((-1 : Int32), S0)) (fun b3 =>
  (fw_let (fw_g S0 a0 2) (fun x4 =>
  (if x4 < 0 then
  (some ((-3 : Int32), S0))
  else
  (fw_om (fw_r S0 a0 1) none (fun b5 =>
  (if x4 < (nI (fw_l S0 b5)) then
  (fw_let (fw_z S0) (fun b7 => (fw_let (fw_nw S0 0) (fun S6 =>
  (fw_om (fw_r S6 a0 3) ((Option.bind (F_Request_init b7 x4 p1 p2 (fw_g S6 a0 7) none S6) (fun S10 =>
  (fw_om (fw_r S10 a0 3) none (fun b12 =>
  (Option.bind (F_Pairs_clear b12 S10) (fun S13 =>
  (fw_om (fw_r S13 a0 1) none (fun b15 =>
  (if x4 < 0 ∨ fw_l S13 b15 ≤ x4.toNatClampNeg then none else
  (fw_let (fw_wr S13 b15 x4.toNatClampNeg (some b7)) (fun S17 =>
  (fw_let (fw_wi S17 a0 2 ((fw_g S17 a0 2) + (1 : Int32))) (fun S18 =>
  (Option.bind (F_Request_hasKeysLeft b7 S18) (fun x19 =>
  (if x19 = 0 then
  (fw_let (fw_wi S18 b7 14 (1 : Int32)) (fun S21 =>
  (some (x4, S21))))
  else
  (Option.bind (F_Request_writeAsk b7 S18) (fun S22 =>
  (fw_b2 (F_FW_sendFirst a0 b7 b3 S22) (fun x25 S24 =>
  (some (x4, S24))))))))))))))))))))))) (fun b9 =>
  (Option.bind (F_Request_init b7 x4 p1 p2 (fw_g S6 a0 7) (some b9) S6) (fun S27 =>
  (fw_om (fw_r S27 a0 3) none (fun b29 =>
  (Option.bind (F_Pairs_clear b29 S27) (fun S30 =>
  (fw_om (fw_r S30 a0 1) none (fun b32 =>
  (if x4 < 0 ∨ fw_l S30 b32 ≤ x4.toNatClampNeg then none else
  (fw_let (fw_wr S30 b32 x4.toNatClampNeg (some b7)) (fun S34 =>
  (fw_let (fw_wi S34 a0 2 ((fw_g S34 a0 2) + (1 : Int32))) (fun S35 =>
  (Option.bind (F_Request_hasKeysLeft b7 S35) (fun x36 =>
  (if x36 = 0 then
  (fw_let (fw_wi S35 b7 14 (1 : Int32)) (fun S38 =>
  (some (x4, S38))))
  else
  (Option.bind (F_Request_writeAsk b7 S35) (fun S39 =>
  (fw_b2 (F_FW_sendFirst a0 b7 b3 S39) (fun x42 S41 =>
  (some (x4, S41))))))))))))))))))))))))))))
  else
  (some ((-3 : Int32), S0))))))))))))
def F_FW_learn (a0 : Nat) (p1 : Nat) (S0 : fw_S) : Option (fw_S) :=
  (fw_let (fw_g S0 p1 0) (fun x1 =>
  (if (fw_g S0 p1 5) ≤ 0 then
  (some S0)
  else
  (if x1 < 0 then
  (some S0)
  else
  (fw_om (fw_r S0 a0 5) none (fun b2 =>
  (if (nI (fw_l S0 b2)) ≤ x1 then
  (some S0)
  else
  (fw_om (fw_r S0 a0 6) none (fun b3 =>
  (if x1 < (nI (fw_l S0 b3)) then
  (fw_om (fw_r S0 p1 7) none (fun b4 =>
  (if (fw_g S0 p1 5) = 0 then none else
  (fw_let (((fw_g S0 b4 2) * (1000 : Int32)) / (fw_g S0 p1 5)) (fun x6 =>
  (fw_om (fw_r S0 a0 5) ((fw_om (fw_r S0 a0 6) none (fun b8 =>
  (if x1 < 0 ∨ fw_l S0 b8 ≤ x1.toNatClampNeg then none else
  (if (fw_g S0 b8 x1.toNatClampNeg) = 0 then
  none
  else
  (fw_om (fw_r S0 a0 5) none (fun b10 =>
  (if x1 < 0 ∨ fw_l S0 b10 ≤ x1.toNatClampNeg then none else
  none)))))))) (fun b7 =>
  (fw_om (fw_r S0 a0 6) none (fun b12 =>
  (if x1 < 0 ∨ fw_l S0 b12 ≤ x1.toNatClampNeg then none else
  (if (fw_g S0 b12 x1.toNatClampNeg) = 0 then
  (if x1 < 0 ∨ fw_l S0 b7 ≤ x1.toNatClampNeg then none else
  (fw_let (fw_wi S0 b7 x1.toNatClampNeg x6) (fun S15 =>
  (fw_om (fw_r S15 a0 6) none (fun b16 =>
  (if x1 < 0 ∨ fw_l S15 b16 ≤ x1.toNatClampNeg then none else
  (fw_let (fw_wi S15 b16 x1.toNatClampNeg (1 : Int32)) (fun S18 =>
  (some S18)))))))))
  else
  (fw_om (fw_r S0 a0 5) none (fun b19 =>
  (if x1 < 0 ∨ fw_l S0 b19 ≤ x1.toNatClampNeg then none else
  (if x1 < 0 ∨ fw_l S0 b7 ≤ x1.toNatClampNeg then none else
  (fw_let (fw_wi S0 b7 x1.toNatClampNeg (((fw_g S0 b19 x1.toNatClampNeg) + x6) / (2 : Int32))) (fun S22 =>
  (fw_om (fw_r S22 a0 6) none (fun b23 =>
  (if x1 < 0 ∨ fw_l S22 b23 ≤ x1.toNatClampNeg then none else
  (fw_let (fw_wi S22 b23 x1.toNatClampNeg (1 : Int32)) (fun S25 =>
  (some S25)))))))))))))))))))))))
  else
  (some S0)))))))))))
def F_FW_hear (a0 : Nat) (p1 : Option Nat) (p2 : Int32) (p3 : Nat) (S0 : fw_S) : Option (Int32 × fw_S) :=
  (fw_om p1 none (fun b1 => (Option.bind (F_FW_requestAt a0 (fw_g S0 b1 1) S0) (fun o2 =>
  (fw_om o2 (some ((0 : Int32), S0)) (fun b4 =>
  (Option.bind (F_Request_waitsFor b4 b1 p2 S0) (fun x5 =>
  (if ¬ x5 = 0 then
  (if ¬ (fw_g S0 b1 0) = (4 : Int32) then
  (Option.bind (F_Request_takeRows b4 b1 S0) (fun S7 =>
  (Option.bind (F_Frame_byteAt b1 (1 : Int32) S7) (fun x9 =>
  (if ¬ x9 = (1 : Int32) then
  (Option.bind (F_Request_hasKeysLeft b4 S7) (fun x11 =>
  (if x11 = 0 then
  (fw_let (fw_wi S7 b4 14 (1 : Int32)) (fun S13 =>
  (Option.bind (F_FW_learn a0 b4 S13) (fun S14 =>
  (some ((1 : Int32), S14))))))
  else
  (Option.bind (F_Request_writeAsk b4 S7) (fun S16 =>
  (fw_b2 (F_FW_sendFirst a0 b4 p3 S16) (fun x19 S18 =>
  (some ((1 : Int32), S18)))))))))
  else
  (Option.bind (F_Request_writeMore b4 S7) (fun S21 =>
  (fw_b2 (F_FW_sendFirst a0 b4 p3 S21) (fun x24 S23 =>
  (some ((1 : Int32), S23)))))))))))
  else
  (Option.bind (F_Request_fail b4 (3 : Int32) S0) (fun S26 =>
  (some ((1 : Int32), S26)))))
  else
  (some ((0 : Int32), S0)))))))))))
def F_FW_serve (a0 : Nat) (p1 : Option Nat) (p2 : Nat) (S0 : fw_S) : Option (Int32 × fw_S) :=
  (fw_om p1 none (fun b1 => (if ¬ (fw_g S0 b1 0) = (1 : Int32) then
  (if ¬ (fw_g S0 b1 0) = (3 : Int32) then
  (some ((0 : Int32), S0))
  else
  (fw_om (fw_r S0 a0 4) none (fun b2 =>
  (Option.bind (F_ServingEnd_answerMore b2 b1 S0) (fun S3 =>
  (fw_om (fw_r S3 a0 4) none (fun b5 =>
  (fw_om (fw_r S3 b5 4) ((fw_b2 (F_FW_send a0 none p2 S3) (fun x8 S7 =>
  (some ((1 : Int32), S7))))) (fun b6 =>
  (fw_b2 (F_FW_send a0 (some b6) p2 S3) (fun x11 S10 =>
  (some ((1 : Int32), S10)))))))))))))
  else
  (fw_om (fw_r S0 a0 4) none (fun b13 =>
  (Option.bind (F_ServingEnd_answerAsk b13 b1 S0) (fun S14 =>
  (fw_om (fw_r S14 a0 4) none (fun b16 =>
  (fw_om (fw_r S14 b16 4) ((fw_b2 (F_FW_send a0 none p2 S14) (fun x19 S18 =>
  (some ((1 : Int32), S18))))) (fun b17 =>
  (fw_b2 (F_FW_send a0 (some b17) p2 S14) (fun x22 S21 =>
  (some ((1 : Int32), S21)))))))))))))))
def F_FW_take_j69 (v0 : Nat) (s0 : Int32) (S0 : fw_S) : Option (Int32 × fw_S) :=
    (if s0 = 0 then
  (fw_let (fw_wi S0 v0 11 ((fw_g S0 v0 11) + (1 : Int32))) (fun S8 =>
  none))
  else
  none)
def F_FW_take_j69x (v0 : Nat) (v5 : Nat) (s0 : Int32) (S0 : fw_S) : Option (Int32 × fw_S) :=
    (if s0 = 0 then
  (fw_let (fw_wi S0 v0 11 ((fw_g S0 v0 11) + (1 : Int32))) (fun S15 =>
  (some (((fw_g S15 v5 0) + (10 : Int32)), S15))))
  else
  (some ((fw_g S0 v5 0), S0)))
def F_FW_take_j31 (v0 : Nat) (v1 : Int32) (v2 : Nat) (v4 : Int32) (S0 : fw_S) : Option (Int32 × fw_S) :=
    (if v4 = (1 : Int32) then
  (fw_om (fw_r S0 v2 4) ((if ¬ v1 = (4 : Int32) then
  (fw_b2 (F_FW_hear v0 none v1 v2 S0) (fun x6 S5 =>
  F_FW_take_j69 v0 x6 S5))
  else
  (fw_b2 (F_FW_serve v0 none v2 S0) (fun x10 S9 =>
  F_FW_take_j69 v0 x10 S9)))) (fun b4 =>
  (if ¬ v1 = (4 : Int32) then
  (fw_b2 (F_FW_hear v0 (some b4) v1 v2 S0) (fun x13 S12 =>
  F_FW_take_j69x v0 b4 x13 S12))
  else
  (fw_b2 (F_FW_serve v0 (some b4) v2 S0) (fun x17 S16 =>
  F_FW_take_j69x v0 b4 x17 S16)))))
  else
  (some (v4, S0)))
def F_FW_take (a0 : Nat) (p1 : Int32) (p2 : Nat) (p3 : Int32) (S0 : fw_S) : Option (Int32 × fw_S) :=
  (fw_b2 (F_Wire_accept p2 p3 S0) (fun x2 S1 =>
  (if ¬ x2 = (-10 : Int32) then
  F_FW_take_j31 a0 p1 p2 x2 S1
  else
  (if ¬ p1 = (4 : Int32) then
  (Option.bind (F_Wire_end p2 S1) (fun S19 =>
  F_FW_take_j31 a0 p1 p2 x2 S19))
  else
  (fw_let (fw_wi S1 p2 5 (0 : Int32)) (fun S21 =>
  F_FW_take_j31 a0 p1 p2 x2 S21))))))
def F_FW_octet (a0 : Nat) (p1 : Int32) (p2 : Int32) (S0 : fw_S) : Option (Int32 × fw_S) :=
  (Option.bind (F_FW_wireAt a0 p1 S0) (fun o1 =>
  (fw_om o1 (some ((-1 : Int32), S0)) (fun b3 =>
  (if ¬ (fw_g S0 b3 0) = 0 then
  (fw_b2 (F_FW_take a0 p1 b3 (p2 &&& (255 : Int32)) S0) (fun x5 S4 =>
  (some (x5, S4))))
  else
  (some ((-2 : Int32), S0)))))))
def F_FW_out (a0 : Nat) (p1 : Int32) (S0 : fw_S) : Option (Int32 × fw_S) :=
  (Option.bind (F_FW_wireAt a0 p1 S0) (fun o1 =>
  (fw_om o1 (some ((-1 : Int32), S0)) (fun b3 =>
  (fw_b2 (F_Wire_takeFirst b3 S0) (fun x5 S4 =>
  (some (x5, S4))))))))
def F_FW_loop_l86 : Nat → Nat → Int32 → Nat → Nat → Int32 → Int32 → fw_S → Option (Int32 × fw_S)
  | 0, _, _, _, _, _, _, _ => none
  | n + 1, v0, v1, v3, v4, v6, v7, S0 =>
    (if v6 ≤ v7 then
  (Option.bind (F_Wire_clearOut v4 S0) (fun S12 =>
  (some (v7, S12))))
  else
  (if (fw_g S0 v3 0) = 0 then
  (Option.bind (F_Wire_clearOut v4 S0) (fun S14 =>
  (some (v7, S14))))
  else
  (fw_b2 (F_Wire_takeFirst v4 S0) (fun x17 S16 =>
  (fw_b2 (F_FW_take v0 v1 v3 x17 S16) (fun x20 S19 =>
  F_FW_loop_l86 n v0 v1 v3 v4 v6 (v7 + (1 : Int32)) S19))))))
def F_FW_loop_l51 : Nat → Nat → Int32 → Nat → Nat → Int32 → Int32 → fw_S → Option (Int32 × fw_S)
  | 0, _, _, _, _, _, _, _ => none
  | n + 1, v0, v1, v3, v4, v5, v6, S0 =>
    (if v5 ≤ v6 then
  (fw_let (fw_g S0 v4 3) (fun x11 =>
  F_FW_loop_l86 4096 v0 v1 v3 v4 x11 (0 : Int32) S0))
  else
  (fw_b2 (F_Wire_takeFirst v3 S0) (fun x23 S22 =>
  (fw_b2 (F_FW_take v0 (4 : Int32) v4 x23 S22) (fun x26 S25 =>
  F_FW_loop_l51 n v0 v1 v3 v4 v5 (v6 + (1 : Int32)) S25)))))
def F_FW_loop (a0 : Nat) (p1 : Int32) (p2 : Int32) (S0 : fw_S) : Option (Int32 × fw_S) :=
  (Option.bind (F_FW_houseWire a0 p1 S0) (fun o1 =>
  (fw_om o1 ((Option.bind (F_FW_wireAt a0 (4 : Int32) S0) (fun o4 =>
  (fw_om o4 (some ((-1 : Int32), S0)) (fun b6 =>
  (some ((-1 : Int32), S0))))))) (fun b3 =>
  (Option.bind (F_FW_wireAt a0 (4 : Int32) S0) (fun o7 =>
  (fw_om o7 (some ((-1 : Int32), S0)) (fun b9 =>
  (if 0 ≤ p2 then
  (if ¬ (fw_g S0 b3 0) = 0 then
  (fw_let (if (fw_g S0 b3 3) < p2 then (fw_g S0 b3 3) else p2) (fun x10 =>
  F_FW_loop_l51 4096 a0 p1 b3 b9 x10 (0 : Int32) S0))
  else
  (some ((-2 : Int32), S0)))
  else
  (some ((-1 : Int32), S0)))))))))))
def F_FW_earliestDue_l5 (S0 : fw_S) : Nat → Nat → Int32 → Int32 → Option (Int32)
  | 0, _, _, _ => none
  | n + 1, v0, v1, v2 =>
    (if (fw_g S0 v0 2) ≤ v2 then
  (some v1)
  else
  (Option.bind (F_FW_requestAt v0 v2 S0) (fun o1 =>
  (fw_om o1 (F_FW_earliestDue_l5 S0 n v0 v1 (v2 + (1 : Int32))) (fun b3 =>
  (if ¬ (fw_g S0 b3 14) = 0 then
  F_FW_earliestDue_l5 S0 n v0 v1 (v2 + (1 : Int32))
  else
  (fw_let (if ((fw_g S0 b3 12) + (fw_g S0 v0 8)) < v1 then ((fw_g S0 b3 12) + (fw_g S0 v0 8)) else v1) (fun x4 =>
  F_FW_earliestDue_l5 S0 n v0 x4 (v2 + (1 : Int32))))))))))
def F_FW_earliestDue (a0 : Nat) (S0 : fw_S) : Option (Int32) :=
  F_FW_earliestDue_l5 S0 4096 a0 (2147483647 : Int32) (0 : Int32)
def F_FW_repeat (a0 : Nat) (p1 : Nat) (S0 : fw_S) : Option (fw_S) :=
  (Option.bind (F_FW_houseWire a0 (fw_g S0 p1 0) S0) (fun o1 =>
  (fw_om o1 (some S0) (fun b3 =>
  (fw_let (fw_wi S0 p1 12 (fw_g S0 a0 10)) (fun S4 =>
  (fw_let (fw_wi S4 p1 13 ((fw_g S4 p1 13) + (1 : Int32))) (fun S5 =>
  (fw_om (fw_r S5 p1 9) ((fw_b2 (F_FW_send a0 none b3 S5) (fun x8 S7 =>
  (some S7)))) (fun b6 =>
  (fw_b2 (F_FW_send a0 (some b6) b3 S5) (fun x11 S10 =>
  (some S10)))))))))))))
def F_FW_settleDue_l4 : Nat → Nat → Int32 → Int32 → fw_S → Option (Int32 × fw_S)
  | 0, _, _, _, _ => none
  | n + 1, v0, v1, v2, S0 =>
    (if (fw_g S0 v0 2) ≤ v2 then
  (some (v1, S0))
  else
  (Option.bind (F_FW_requestAt v0 v2 S0) (fun o1 =>
  (fw_om o1 (F_FW_settleDue_l4 n v0 v1 (v2 + (1 : Int32)) S0) (fun b3 =>
  (if ¬ (fw_g S0 b3 14) = 0 then
  F_FW_settleDue_l4 n v0 v1 (v2 + (1 : Int32)) S0
  else
  (if (fw_g S0 v0 8) ≤ ((fw_g S0 v0 10) - (fw_g S0 b3 12)) then
  (if (fw_g S0 b3 13) < (fw_g S0 v0 9) then
  (Option.bind (F_FW_repeat v0 b3 S0) (fun S4 =>
  F_FW_settleDue_l4 n v0 v1 (v2 + (1 : Int32)) S4))
  else
  (Option.bind (F_Request_fail b3 (1 : Int32) S0) (fun S6 =>
  F_FW_settleDue_l4 n v0 (v1 + (1 : Int32)) (v2 + (1 : Int32)) S6)))
  else
  F_FW_settleDue_l4 n v0 v1 (v2 + (1 : Int32)) S0)))))))
def F_FW_settleDue (a0 : Nat) (S0 : fw_S) : Option (Int32 × fw_S) :=
  F_FW_settleDue_l4 4096 a0 (0 : Int32) (0 : Int32) S0
def F_FW_tick_l23 : Nat → Nat → Int32 → Int32 → Int32 → Int32 → fw_S → Option (Int32 × fw_S)
  | 0, _, _, _, _, _, _ => none
  | n + 1, v0, v1, v2, v3, v4, S0 =>
    (if v1 ≤ v4 then
  (some (v2, S0))
  else
  (fw_let (fw_wi S0 v0 10 ((fw_g S0 v0 10) + (1 : Int32))) (fun S3 =>
  (if (fw_g S3 v0 10) < v3 then
  F_FW_tick_l23 n v0 v1 v2 v3 (v4 + (1 : Int32)) S3
  else
  (fw_b2 (F_FW_settleDue v0 S3) (fun x5 S4 =>
  (fw_let (v2 + x5) (fun x7 =>
  (Option.bind (F_FW_earliestDue v0 S4) (fun x8 =>
  F_FW_tick_l23 n v0 v1 x7 x8 (v4 + (1 : Int32)) S4))))))))))
def F_FW_tick (a0 : Nat) (p1 : Int32) (S0 : fw_S) : Option (Int32 × fw_S) :=
  (if p1 < 0 then
  (some ((-1 : Int32), S0))
  else
  (if p1 ≤ (1000 : Int32) then
  (Option.bind (F_FW_earliestDue a0 S0) (fun x1 =>
  F_FW_tick_l23 4096 a0 p1 (0 : Int32) x1 (0 : Int32) S0))
  else
  (some ((-1 : Int32), S0))))
def F_FW_told (a0 : Nat) (p1 : Int32) (p2 : Int32) (S0 : fw_S) : Option (Int32) :=
  (Option.bind (F_FW_requestAt a0 p1 S0) (fun o1 =>
  (fw_om o1 (some (-1 : Int32)) (fun b3 =>
  (if p2 = (0 : Int32) then
  (some (fw_g S0 b3 0))
  else
  (if p2 = (1 : Int32) then
  (some (fw_g S0 b3 14))
  else
  (if p2 = (2 : Int32) then
  (some (fw_g S0 b3 15))
  else
  (if p2 = (3 : Int32) then
  (fw_om (fw_r S0 b3 7) none (fun b4 =>
  (some (fw_g S0 b4 2))))
  else
  (if p2 = (4 : Int32) then
  (Option.bind (F_Request_joinedSize b3 S0) (fun x5 =>
  (some x5)))
  else
  (if p2 = (5 : Int32) then
  (some (fw_g S0 b3 11))
  else
  (if p2 = (6 : Int32) then
  (some (fw_g S0 b3 13))
  else
  (if p2 = (7 : Int32) then
  (some (fw_g S0 b3 5))
  else
  (some (-1 : Int32))))))))))))))
def F_FW_row (a0 : Nat) (p1 : Int32) (p2 : Int32) (p3 : Int32) (S0 : fw_S) : Option (Int32) :=
  (Option.bind (F_FW_requestAt a0 p1 S0) (fun o1 =>
  (fw_om o1 (some (-1 : Int32)) (fun b3 =>
  (if p3 < 0 then
  (some (-1 : Int32))
  else
  (if p3 ≤ (1 : Int32) then
  (if p2 < 0 then
  (some (-2 : Int32))
  else
  (fw_om (fw_r S0 b3 7) none (fun b4 =>
  (if p2 < (fw_g S0 b4 2) then
  (if ¬ p3 = 0 then
  (fw_om (fw_r S0 b3 7) none (fun b5 =>
  (Option.bind (F_Pairs_valueAt b5 p2 S0) (fun x6 =>
  (some x6)))))
  else
  (fw_om (fw_r S0 b3 7) none (fun b8 =>
  (Option.bind (F_Pairs_keyAt b8 p2 S0) (fun x9 =>
  (some x9))))))
  else
  (some (-2 : Int32))))))
  else
  (some (-1 : Int32))))))))
def F_FW_joined (a0 : Nat) (p1 : Int32) (p2 : Int32) (p3 : Int32) (S0 : fw_S) : Option (Int32) :=
  (Option.bind (F_FW_requestAt a0 p1 S0) (fun o1 =>
  (fw_om o1 (some (-1 : Int32)) (fun b3 =>
  (if p3 < 0 then
  (some (-1 : Int32))
  else
  (if p3 ≤ (1 : Int32) then
  (if p2 < 0 then
  (some (-2 : Int32))
  else
  (if (fw_g S0 b3 14) = (1 : Int32) then
  (if ¬ p3 = 0 then
  (Option.bind (F_Request_joinedPart b3 p2 (0 : Int32) S0) (fun x4 =>
  (some x4)))
  else
  (Option.bind (F_Request_joinedPart b3 p2 (1 : Int32) S0) (fun x6 =>
  (some x6))))
  else
  (some (-2 : Int32))))
  else
  (some (-1 : Int32))))))))
def F_FW_estimate (a0 : Nat) (p1 : Int32) (S0 : fw_S) : Option (Int32) :=
  (if p1 < 0 then
  (some (-1 : Int32))
  else
  (fw_om (fw_r S0 a0 5) none (fun b1 =>
  (if p1 < (nI (fw_l S0 b1)) then
  (fw_om (fw_r S0 a0 5) none (fun b2 =>
  (if p1 < 0 ∨ fw_l S0 b2 ≤ p1.toNatClampNeg then none else
  (some (fw_g S0 b2 p1.toNatClampNeg)))))
  else
  (some (-1 : Int32))))))
def F_FW_fact (a0 : Nat) (p1 : Int32) (p2 : Int32) (S0 : fw_S) : Option (Int32 × fw_S) :=
  (Option.bind (F_FW_isByte p1 S0) (fun x1 =>
  (if x1 = 0 then
  (some ((-1 : Int32), S0))
  else
  (Option.bind (F_FW_isByte p2 S0) (fun x3 =>
  (if ¬ x3 = 0 then
  (fw_om (fw_r S0 a0 4) none (fun b5 =>
  (fw_om (fw_r S0 b5 0) none (fun b6 =>
  (fw_b2 (F_Pairs_add b6 p1 p2 S0) (fun x8 S7 =>
  (if x8 = 0 then
  (some ((-3 : Int32), S7))
  else
  (fw_om (fw_r S7 a0 4) none (fun b10 =>
  (fw_om (fw_r S7 b10 0) none (fun b11 =>
  (some ((fw_g S7 b11 2), S7)))))))))))))
  else
  (some ((-1 : Int32), S0))))))))
def F_FW_count (a0 : Nat) (p1 : Int32) (S0 : fw_S) : Option (Int32) :=
  (if p1 = (0 : Int32) then
  (some (fw_g S0 a0 2))
  else
  (if p1 = (1 : Int32) then
  (fw_om (fw_r S0 a0 4) none (fun b1 =>
  (fw_om (fw_r S0 b1 0) none (fun b2 =>
  (some (fw_g S0 b2 2))))))
  else
  (if p1 = (2 : Int32) then
  (fw_om (fw_r S0 a0 3) none (fun b3 =>
  (some (fw_g S0 b3 2))))
  else
  (if p1 = (3 : Int32) then
  (some (fw_g S0 a0 10))
  else
  (if p1 = (4 : Int32) then
  (some (fw_g S0 a0 11))
  else
  (if p1 = (5 : Int32) then
  (some (fw_g S0 a0 12))
  else
  (if p1 = (6 : Int32) then
  (fw_om (fw_r S0 a0 4) none (fun b4 =>
  (some (fw_g S0 b4 3))))
  else
  (if p1 = (7 : Int32) then
  (fw_om (fw_r S0 a0 4) none (fun b5 =>
  (some (fw_g S0 b5 2))))
  else
  (some (-1 : Int32))))))))))
def F_FW_line (a0 : Nat) (p1 : Int32) (p2 : Int32) (S0 : fw_S) : Option (Int32) :=
  (Option.bind (F_FW_wireAt a0 p1 S0) (fun o1 =>
  (fw_om o1 (some (-1 : Int32)) (fun b3 =>
  (if p2 = (0 : Int32) then
  (if (fw_g S0 b3 0) = 0 then
  (some (0 : Int32))
  else
  (some (1 : Int32)))
  else
  (if p2 = (1 : Int32) then
  (some (fw_g S0 b3 3))
  else
  (if p2 = (2 : Int32) then
  (some (fw_g S0 b3 5))
  else
  (some (-1 : Int32)))))))))
set_option maxRecDepth 100000 in
def F_Mo_init (a0 : Nat) (S0 : fw_S) : Option (fw_S) :=
  (fw_let (fw_z S0) (fun b2 => (fw_let (fw_nw S0 (5 : Int32).toNatClampNeg) (fun S1 =>
  (fw_let (fw_wr S1 a0 0 (some b2)) (fun S4 =>
  (fw_let (fw_z S4) (fun b6 => (fw_let (fw_nw S4 (1500 : Int32).toNatClampNeg) (fun S5 =>
  (fw_let (fw_wr S5 a0 1 (some b6)) (fun S8 =>
  (fw_let (fw_z S8) (fun b10 => (fw_let (fw_nw S8 (5 : Int32).toNatClampNeg) (fun S9 =>
  (fw_let (fw_wr S9 a0 2 (some b10)) (fun S12 =>
  (fw_let (fw_z S12) (fun b14 => (fw_let (fw_nw S12 (150 : Int32).toNatClampNeg) (fun S13 =>
  (fw_let (fw_wr S13 a0 3 (some b14)) (fun S16 =>
  (fw_let (fw_z S16) (fun b18 => (fw_let (fw_nw S16 (5 : Int32).toNatClampNeg) (fun S17 =>
  (fw_let (fw_wr S17 a0 4 (some b18)) (fun S20 =>
  (fw_let (fw_wi S20 a0 5 (4 : Int32)) (fun S21 =>
  (fw_let (fw_wi S21 a0 6 (10 : Int32)) (fun S22 =>
  (fw_let (fw_wi S22 a0 7 (2 : Int32)) (fun S23 =>
  (fw_let (fw_z S23) (fun b25 => (fw_let (fw_nw S23 (20 : Int32).toNatClampNeg) (fun S24 =>
  (fw_let (fw_wr S24 a0 12 (some b25)) (fun S27 =>
  (fw_let (fw_z S27) (fun b29 => (fw_let (fw_nw S27 (20 : Int32).toNatClampNeg) (fun S28 =>
  (fw_let (fw_wr S28 a0 13 (some b29)) (fun S31 =>
  (fw_let (fw_z S31) (fun b33 => (fw_let (fw_nw S31 (24 : Int32).toNatClampNeg) (fun S32 =>
  (fw_let (fw_wr S32 a0 15 (some b33)) (fun S35 =>
  (fw_let (fw_z S35) (fun b37 => (fw_let (fw_nw S35 (24 : Int32).toNatClampNeg) (fun S36 =>
  (fw_let (fw_wr S36 a0 16 (some b37)) (fun S39 =>
  (fw_let (fw_z S39) (fun b41 => (fw_let (fw_nw S39 (24 : Int32).toNatClampNeg) (fun S40 =>
  (fw_let (fw_wr S40 a0 17 (some b41)) (fun S43 =>
  (fw_let (fw_z S43) (fun b45 => (fw_let (fw_nw S43 (24 : Int32).toNatClampNeg) (fun S44 =>
  (fw_let (fw_wr S44 a0 18 (some b45)) (fun S47 =>
  (fw_let (fw_z S47) (fun b49 => (fw_let (fw_nw S47 (24 : Int32).toNatClampNeg) (fun S48 =>
  (fw_let (fw_wr S48 a0 19 (some b49)) (fun S51 =>
  (fw_let (fw_z S51) (fun b53 => (fw_let (fw_nw S51 (480 : Int32).toNatClampNeg) (fun S52 =>
  (fw_let (fw_wr S52 a0 20 (some b53)) (fun S55 =>
  (fw_let (fw_z S55) (fun b57 => (fw_let (fw_nw S55 (480 : Int32).toNatClampNeg) (fun S56 =>
  (fw_let (fw_wr S56 a0 21 (some b57)) (fun S59 =>
  (fw_let (fw_z S59) (fun b61 => (fw_let (fw_nw S59 (24 : Int32).toNatClampNeg) (fun S60 =>
  (fw_let (fw_wr S60 a0 22 (some b61)) (fun S63 =>
  (fw_let (fw_z S63) (fun b65 => (fw_let (fw_nw S63 (480 : Int32).toNatClampNeg) (fun S64 =>
  (fw_let (fw_wr S64 a0 23 (some b65)) (fun S67 =>
  (fw_let (fw_z S67) (fun b69 => (fw_let (fw_nw S67 (24 : Int32).toNatClampNeg) (fun S68 =>
  (fw_let (fw_wr S68 a0 24 (some b69)) (fun S71 =>
  (fw_let (fw_z S71) (fun b73 => (fw_let (fw_nw S71 (24 : Int32).toNatClampNeg) (fun S72 =>
  (fw_let (fw_wr S72 a0 25 (some b73)) (fun S75 =>
  (fw_let (fw_z S75) (fun b77 => (fw_let (fw_nw S75 (24 : Int32).toNatClampNeg) (fun S76 =>
  (fw_let (fw_wr S76 a0 26 (some b77)) (fun S79 =>
  (fw_let (fw_z S79) (fun b81 => (fw_let (fw_nw S79 (1440 : Int32).toNatClampNeg) (fun S80 =>
  (fw_let (fw_wr S80 a0 27 (some b81)) (fun S83 =>
  (fw_let (fw_z S83) (fun b85 => (fw_let (fw_nw S83 (1440 : Int32).toNatClampNeg) (fun S84 =>
  (fw_let (fw_wr S84 a0 28 (some b85)) (fun S87 =>
  (fw_let (fw_z S87) (fun b89 => (fw_let (fw_nw S87 (24 : Int32).toNatClampNeg) (fun S88 =>
  (fw_let (fw_wr S88 a0 29 (some b89)) (fun S91 =>
  (fw_let (fw_z S91) (fun b93 => (fw_let (fw_nw S91 (24 : Int32).toNatClampNeg) (fun S92 =>
  (fw_let (fw_wr S92 a0 30 (some b93)) (fun S95 =>
  (fw_let (fw_z S95) (fun b97 => (fw_let (fw_nw S95 (24 : Int32).toNatClampNeg) (fun S96 =>
  (fw_let (fw_wr S96 a0 31 (some b97)) (fun S99 =>
  (fw_let (fw_z S99) (fun b101 => (fw_let (fw_nw S99 (24 : Int32).toNatClampNeg) (fun S100 =>
  (fw_let (fw_wr S100 a0 32 (some b101)) (fun S103 =>
  (fw_let (fw_z S103) (fun b105 => (fw_let (fw_nw S103 (24 : Int32).toNatClampNeg) (fun S104 =>
  (fw_let (fw_wr S104 a0 33 (some b105)) (fun S107 =>
  (fw_let (fw_z S107) (fun b109 => (fw_let (fw_nw S107 (24 : Int32).toNatClampNeg) (fun S108 =>
  (fw_let (fw_wr S108 a0 34 (some b109)) (fun S111 =>
  (fw_let (fw_z S111) (fun b113 => (fw_let (fw_nw S111 (480 : Int32).toNatClampNeg) (fun S112 =>
  (fw_let (fw_wr S112 a0 35 (some b113)) (fun S115 =>
  (fw_let (fw_z S115) (fun b117 => (fw_let (fw_nw S115 (4 : Int32).toNatClampNeg) (fun S116 =>
  (if (0 : Int32) < 0 ∨ fw_l S116 b117 ≤ (0 : Int32).toNatClampNeg then none else
  (fw_let (fw_wi S116 b117 (0 : Int32).toNatClampNeg (1000 : Int32)) (fun S120 =>
  (if (1 : Int32) < 0 ∨ fw_l S120 b117 ≤ (1 : Int32).toNatClampNeg then none else
  (fw_let (fw_wi S120 b117 (1 : Int32).toNatClampNeg (1000 : Int32)) (fun S122 =>
  (if (2 : Int32) < 0 ∨ fw_l S122 b117 ≤ (2 : Int32).toNatClampNeg then none else
  (fw_let (fw_wi S122 b117 (2 : Int32).toNatClampNeg (1000 : Int32)) (fun S124 =>
  (if (3 : Int32) < 0 ∨ fw_l S124 b117 ≤ (3 : Int32).toNatClampNeg then none else
  (fw_let (fw_wi S124 b117 (3 : Int32).toNatClampNeg (1000 : Int32)) (fun S126 =>
  (fw_let (fw_wr S126 a0 36 (some b117)) (fun S127 =>
  (fw_let (fw_z S127) (fun b129 => (fw_let (fw_nw S127 (4 : Int32).toNatClampNeg) (fun S128 =>
  (fw_let (fw_wr S128 a0 37 (some b129)) (fun S131 =>
  (fw_let (fw_z S131) (fun b133 => (fw_let (fw_nw S131 (60 : Int32).toNatClampNeg) (fun S132 =>
  (fw_let (fw_wr S132 a0 39 (some b133)) (fun S135 =>
  (fw_let (fw_z S135) (fun b137 => (fw_let (fw_nw S135 (60 : Int32).toNatClampNeg) (fun S136 =>
  (fw_let (fw_wr S136 a0 40 (some b137)) (fun S139 =>
  (fw_let (fw_z S139) (fun b141 => (fw_let (fw_nw S139 (9 : Int32).toNatClampNeg) (fun S140 =>
  (fw_let (fw_wr S140 a0 43 (some b141)) (fun S143 =>
  (fw_let (fw_z S143) (fun b145 => (fw_let (fw_nw S143 (9 : Int32).toNatClampNeg) (fun S144 =>
  (fw_let (fw_wr S144 a0 44 (some b145)) (fun S147 =>
  (fw_let (fw_z S147) (fun b149 => (fw_let (fw_nw S147 (9 : Int32).toNatClampNeg) (fun S148 =>
  (fw_let (fw_wr S148 a0 45 (some b149)) (fun S151 =>
  (fw_let (fw_z S151) (fun b153 => (fw_let (fw_nw S151 (9 : Int32).toNatClampNeg) (fun S152 =>
  (fw_let (fw_wr S152 a0 46 (some b153)) (fun S155 =>
  (fw_let (fw_z S155) (fun b157 => (fw_let (fw_nw S155 (540 : Int32).toNatClampNeg) (fun S156 =>
  (fw_let (fw_wr S156 a0 47 (some b157)) (fun S159 =>
  (fw_let (fw_z S159) (fun b161 => (fw_let (fw_nw S159 (540 : Int32).toNatClampNeg) (fun S160 =>
  (fw_let (fw_wr S160 a0 48 (some b161)) (fun S163 =>
  (fw_let (fw_z S163) (fun b165 => (fw_let (fw_nw S163 (24 : Int32).toNatClampNeg) (fun S164 =>
  (fw_let (fw_wr S164 a0 50 (some b165)) (fun S167 =>
  (fw_om (fw_r S167 a0 0) none (fun b168 =>
  (if (4 : Int32) < 0 ∨ fw_l S167 b168 ≤ (4 : Int32).toNatClampNeg then none else
  (fw_let (fw_wi S167 b168 (4 : Int32).toNatClampNeg (1 : Int32)) (fun S170 =>
  (some S170))))))))))))))))))))))))))))))))))))))))))))))))))))))))))))))))))))))))))))))))))))))))))))))))))))))))))))))))))))))))))))))))))))))))))))))))))))))))))))))))))))))))))))))))))))))))))))))))))))))))))))))))))))))))))))))))))))))))))))))))))))))))))))))))))
def F_Mo_isIn (p0 : Int32) (p1 : Int32) (p2 : Int32) (S0 : fw_S) : Option (Int32) :=
  (if p0 < p1 then
  (some (0 : Int32))
  else
  (if p2 < p0 then
  (some (0 : Int32))
  else
  (some (1 : Int32))))
def F_Mo_send_j155 (v0 : Nat) (v1 : Int32) (v4 : Int32) (v5 : Int32) (S0 : fw_S) : Option (Int32 × fw_S) :=
    (fw_om (fw_r S0 v0 1) none (fun b22 =>
  (if ((v4 + (4 : Int32)) + (fw_g S0 v0 49)) < 0 ∨ fw_l S0 b22 ≤ ((v4 + (4 : Int32)) + (fw_g S0 v0 49)).toNatClampNeg then none else
  (fw_let (fw_wi S0 b22 ((v4 + (4 : Int32)) + (fw_g S0 v0 49)).toNatClampNeg v5) (fun S24 =>
  (fw_om (fw_r S24 v0 2) none (fun b25 =>
  (if v1 < 0 ∨ fw_l S24 b25 ≤ v1.toNatClampNeg then none else
  (if v1 < 0 ∨ fw_l S24 b25 ≤ v1.toNatClampNeg then none else
  (fw_let (fw_wi S24 b25 v1.toNatClampNeg ((fw_g S24 b25 v1.toNatClampNeg) + ((fw_g S24 v0 49) + (5 : Int32)))) (fun S28 =>
  (some ((1 : Int32), S28)))))))))))))
def F_Mo_send_l109 : Nat → Nat → Int32 → Int32 → Int32 → Int32 → fw_S → Option (Int32 × fw_S)
  | 0, _, _, _, _, _, _ => none
  | n + 1, v0, v1, v4, v5, v6, S0 =>
    (if (fw_g S0 v0 49) ≤ v6 then
  F_Mo_send_j155 v0 v1 v4 v5 S0
  else
  (fw_om (fw_r S0 v0 1) ((fw_om (fw_r S0 v0 50) none (fun b30 =>
  (if v6 < 0 ∨ fw_l S0 b30 ≤ v6.toNatClampNeg then none else
  none)))) (fun b29 =>
  (fw_om (fw_r S0 v0 50) none (fun b32 =>
  (if v6 < 0 ∨ fw_l S0 b32 ≤ v6.toNatClampNeg then none else
  (if ((v4 + (4 : Int32)) + v6) < 0 ∨ fw_l S0 b29 ≤ ((v4 + (4 : Int32)) + v6).toNatClampNeg then none else
  (fw_let (fw_wi S0 b29 ((v4 + (4 : Int32)) + v6).toNatClampNeg (fw_g S0 b32 v6.toNatClampNeg)) (fun S35 =>
  (fw_om (fw_r S35 v0 50) none (fun b36 =>
  (if v6 < 0 ∨ fw_l S35 b36 ≤ v6.toNatClampNeg then none else
  (fw_let (v5 ^^^ (fw_g S35 b36 v6.toNatClampNeg)) (fun x38 =>
  F_Mo_send_l109 n v0 v1 v4 x38 (v6 + (1 : Int32)) S35))))))))))))))
def F_Mo_send (a0 : Nat) (p1 : Int32) (p2 : Int32) (p3 : Int32) (S0 : fw_S) : Option (Int32 × fw_S) :=
  (fw_om (fw_r S0 a0 0) none (fun b1 =>
  (if p1 < 0 ∨ fw_l S0 b1 ≤ p1.toNatClampNeg then none else
  (if (fw_g S0 b1 p1.toNatClampNeg) = 0 then
  (fw_let (fw_wi S0 a0 10 ((fw_g S0 a0 10) + (1 : Int32))) (fun S3 =>
  (some ((0 : Int32), S3))))
  else
  (fw_om (fw_r S0 a0 2) none (fun b4 =>
  (if p1 < 0 ∨ fw_l S0 b4 ≤ p1.toNatClampNeg then none else
  (if (((fw_g S0 b4 p1.toNatClampNeg) + (fw_g S0 a0 49)) + (5 : Int32)) ≤ (300 : Int32) then
  (fw_om (fw_r S0 a0 2) none (fun b6 =>
  (if p1 < 0 ∨ fw_l S0 b6 ≤ p1.toNatClampNeg then none else
  (fw_let (((300 : Int32) * p1) + (fw_g S0 b6 p1.toNatClampNeg)) (fun x8 =>
  (fw_let ((p2 ^^^ p3) ^^^ (fw_g S0 a0 49)) (fun x9 =>
  (fw_om (fw_r S0 a0 1) none (fun b10 =>
  (if x8 < 0 ∨ fw_l S0 b10 ≤ x8.toNatClampNeg then none else
  (fw_let (fw_wi S0 b10 x8.toNatClampNeg (126 : Int32)) (fun S12 =>
  (fw_om (fw_r S12 a0 1) none (fun b13 =>
  (if (x8 + (1 : Int32)) < 0 ∨ fw_l S12 b13 ≤ (x8 + (1 : Int32)).toNatClampNeg then none else
  (fw_let (fw_wi S12 b13 (x8 + (1 : Int32)).toNatClampNeg p2) (fun S15 =>
  (fw_om (fw_r S15 a0 1) none (fun b16 =>
  (if (x8 + (2 : Int32)) < 0 ∨ fw_l S15 b16 ≤ (x8 + (2 : Int32)).toNatClampNeg then none else
  (fw_let (fw_wi S15 b16 (x8 + (2 : Int32)).toNatClampNeg p3) (fun S18 =>
  (fw_om (fw_r S18 a0 1) none (fun b19 =>
  (if (x8 + (3 : Int32)) < 0 ∨ fw_l S18 b19 ≤ (x8 + (3 : Int32)).toNatClampNeg then none else
  (fw_let (fw_wi S18 b19 (x8 + (3 : Int32)).toNatClampNeg (fw_g S18 a0 49)) (fun S21 =>
  F_Mo_send_l109 4096 a0 p1 x8 x9 (0 : Int32) S21)))))))))))))))))))))))))))
  else
  (fw_let (fw_wi S0 a0 10 ((fw_g S0 a0 10) + (1 : Int32))) (fun S39 =>
  (some ((0 : Int32), S39))))))))))))
def F_Mo_put (a0 : Nat) (p1 : Int32) (S0 : fw_S) : Option (fw_S) :=
  (fw_om (fw_r S0 a0 50) none (fun b1 =>
  (if (fw_g S0 a0 49) < 0 ∨ fw_l S0 b1 ≤ (fw_g S0 a0 49).toNatClampNeg then none else
  (fw_let (fw_wi S0 b1 (fw_g S0 a0 49).toNatClampNeg (p1 &&& (255 : Int32))) (fun S3 =>
  (fw_let (fw_wi S3 a0 49 ((fw_g S3 a0 49) + (1 : Int32))) (fun S4 =>
  (some S4))))))))
def F_Mo_sendLast_j38 (v0 : Nat) (v1 : Int32) (S0 : fw_S) : Option (Int32 × fw_S) :=
    (fw_om (fw_r S0 v0 32) none (fun b4 =>
  (if v1 < 0 ∨ fw_l S0 b4 ≤ v1.toNatClampNeg then none else
  (fw_let (fw_wi S0 b4 v1.toNatClampNeg (fw_g S0 v0 8)) (fun S6 =>
  (fw_om (fw_r S6 v0 15) none (fun b7 =>
  (if v1 < 0 ∨ fw_l S6 b7 ≤ v1.toNatClampNeg then none else
  (fw_om (fw_r S6 v0 33) none (fun b9 =>
  (if v1 < 0 ∨ fw_l S6 b9 ≤ v1.toNatClampNeg then none else
  (fw_b2 (F_Mo_send v0 (fw_g S6 b7 v1.toNatClampNeg) (fw_g S6 b9 v1.toNatClampNeg) v1 S6) (fun x12 S11 =>
  (if x12 = 0 ∨ x12 = 1 then some (x12, S11) else none))))))))))))))
def F_Mo_sendLast_l7 : Nat → Nat → Int32 → Int32 → fw_S → Option (Int32 × fw_S)
  | 0, _, _, _, _ => none
  | n + 1, v0, v1, v2, S0 =>
    (fw_om (fw_r S0 v0 34) none (fun b2 =>
  (if v1 < 0 ∨ fw_l S0 b2 ≤ v1.toNatClampNeg then none else
  (if (fw_g S0 b2 v1.toNatClampNeg) ≤ v2 then
  F_Mo_sendLast_j38 v0 v1 S0
  else
  (fw_om (fw_r S0 v0 35) none (fun b15 =>
  (if (((20 : Int32) * v1) + v2) < 0 ∨ fw_l S0 b15 ≤ (((20 : Int32) * v1) + v2).toNatClampNeg then none else
  (Option.bind (F_Mo_put v0 (fw_g S0 b15 (((20 : Int32) * v1) + v2).toNatClampNeg) S0) (fun S17 =>
  F_Mo_sendLast_l7 n v0 v1 (v2 + (1 : Int32)) S17)))))))))
def F_Mo_sendLast (a0 : Nat) (p1 : Int32) (S0 : fw_S) : Option (Int32 × fw_S) :=
  (fw_let (fw_wi S0 a0 49 (0 : Int32)) (fun S1 =>
  F_Mo_sendLast_l7 4096 a0 p1 (0 : Int32) S1))
def F_Mo_keep_j50 (v0 : Nat) (v1 : Int32) (S0 : fw_S) : Option (fw_S) :=
    (fw_om (fw_r S0 v0 31) none (fun b7 =>
  (if v1 < 0 ∨ fw_l S0 b7 ≤ v1.toNatClampNeg then none else
  (fw_let (fw_wi S0 b7 v1.toNatClampNeg (0 : Int32)) (fun S9 =>
  (fw_b2 (F_Mo_sendLast v0 v1 S9) (fun x11 S10 =>
  (some S10))))))))
def F_Mo_keep_l19 : Nat → Nat → Int32 → Int32 → fw_S → Option (fw_S)
  | 0, _, _, _, _ => none
  | n + 1, v0, v1, v3, S0 =>
    (if (fw_g S0 v0 49) ≤ v3 then
  F_Mo_keep_j50 v0 v1 S0
  else
  (fw_om (fw_r S0 v0 35) ((fw_om (fw_r S0 v0 50) none (fun b14 =>
  (if v3 < 0 ∨ fw_l S0 b14 ≤ v3.toNatClampNeg then none else
  none)))) (fun b13 =>
  (fw_om (fw_r S0 v0 50) none (fun b16 =>
  (if v3 < 0 ∨ fw_l S0 b16 ≤ v3.toNatClampNeg then none else
  (if (((20 : Int32) * v1) + v3) < 0 ∨ fw_l S0 b13 ≤ (((20 : Int32) * v1) + v3).toNatClampNeg then none else
  (fw_let (fw_wi S0 b13 (((20 : Int32) * v1) + v3).toNatClampNeg (fw_g S0 b16 v3.toNatClampNeg)) (fun S19 =>
  F_Mo_keep_l19 n v0 v1 (v3 + (1 : Int32)) S19)))))))))
def F_Mo_keep (a0 : Nat) (p1 : Int32) (p2 : Int32) (S0 : fw_S) : Option (fw_S) :=
  (fw_om (fw_r S0 a0 33) none (fun b1 =>
  (if p1 < 0 ∨ fw_l S0 b1 ≤ p1.toNatClampNeg then none else
  (fw_let (fw_wi S0 b1 p1.toNatClampNeg p2) (fun S3 =>
  (fw_om (fw_r S3 a0 34) none (fun b4 =>
  (if p1 < 0 ∨ fw_l S3 b4 ≤ p1.toNatClampNeg then none else
  (fw_let (fw_wi S3 b4 p1.toNatClampNeg (fw_g S3 a0 49)) (fun S6 =>
  F_Mo_keep_l19 4096 a0 p1 (0 : Int32) S6))))))))))
def F_Mo_askPart_j78 (v0 : Nat) (v1 : Int32) (S0 : fw_S) : Option (fw_S) :=
    (fw_om (fw_r S0 v0 29) none (fun b8 =>
  (if v1 < 0 ∨ fw_l S0 b8 ≤ v1.toNatClampNeg then none else
  (fw_let (fw_wi S0 b8 v1.toNatClampNeg (0 : Int32)) (fun S10 =>
  (Option.bind (F_Mo_keep v0 v1 (1 : Int32) S10) (fun S11 =>
  (some S11))))))))
def F_Mo_askPart_l17 : Nat → Nat → Int32 → Int32 → fw_S → Option (fw_S)
  | 0, _, _, _, _ => none
  | n + 1, v0, v1, v2, S0 =>
    (fw_om (fw_r S0 v0 24) none (fun b6 =>
  (if v1 < 0 ∨ fw_l S0 b6 ≤ v1.toNatClampNeg then none else
  (if (fw_g S0 b6 v1.toNatClampNeg) ≤ v2 then
  F_Mo_askPart_j78 v0 v1 S0
  else
  (fw_om (fw_r S0 v0 25) none (fun b13 =>
  (if v1 < 0 ∨ fw_l S0 b13 ≤ v1.toNatClampNeg then none else
  (fw_om (fw_r S0 v0 22) none (fun b15 =>
  (if v1 < 0 ∨ fw_l S0 b15 ≤ v1.toNatClampNeg then none else
  (if (fw_g S0 b15 v1.toNatClampNeg) ≤ (fw_g S0 b13 v1.toNatClampNeg) then
  F_Mo_askPart_j78 v0 v1 S0
  else
  (fw_om (fw_r S0 v0 23) ((fw_om (fw_r S0 v0 25) none (fun b18 =>
  (if v1 < 0 ∨ fw_l S0 b18 ≤ v1.toNatClampNeg then none else
  none)))) (fun b17 =>
  (fw_om (fw_r S0 v0 25) none (fun b20 =>
  (if v1 < 0 ∨ fw_l S0 b20 ≤ v1.toNatClampNeg then none else
  (if (((20 : Int32) * v1) + (fw_g S0 b20 v1.toNatClampNeg)) < 0 ∨ fw_l S0 b17 ≤ (((20 : Int32) * v1) + (fw_g S0 b20 v1.toNatClampNeg)).toNatClampNeg then none else
  (Option.bind (F_Mo_put v0 (fw_g S0 b17 (((20 : Int32) * v1) + (fw_g S0 b20 v1.toNatClampNeg)).toNatClampNeg) S0) (fun S23 =>
  (fw_om (fw_r S23 v0 25) none (fun b25 =>
  (if v1 < 0 ∨ fw_l S23 b25 ≤ v1.toNatClampNeg then none else
  (if v1 < 0 ∨ fw_l S23 b25 ≤ v1.toNatClampNeg then none else
  (fw_let (fw_wi S23 b25 v1.toNatClampNeg ((fw_g S23 b25 v1.toNatClampNeg) + (1 : Int32))) (fun S28 =>
  F_Mo_askPart_l17 n v0 v1 (v2 + (1 : Int32)) S28)))))))))))))))))))))))))
def F_Mo_askPart (a0 : Nat) (p1 : Int32) (S0 : fw_S) : Option (fw_S) :=
  (fw_let (fw_wi S0 a0 49 (0 : Int32)) (fun S1 =>
  (fw_om (fw_r S1 a0 30) none (fun b2 =>
  (if p1 < 0 ∨ fw_l S1 b2 ≤ p1.toNatClampNeg then none else
  (Option.bind (F_Mo_put a0 (fw_g S1 b2 p1.toNatClampNeg) S1) (fun S4 =>
  F_Mo_askPart_l17 4096 a0 p1 (0 : Int32) S4)))))))
def F_Mo_finish (a0 : Nat) (p1 : Int32) (S0 : fw_S) : Option (fw_S) :=
  (fw_om (fw_r S0 a0 17) none (fun b1 =>
  (if p1 < 0 ∨ fw_l S0 b1 ≤ p1.toNatClampNeg then none else
  (fw_let (fw_wi S0 b1 p1.toNatClampNeg (1 : Int32)) (fun S3 =>
  (fw_om (fw_r S3 a0 15) none (fun b4 =>
  (if p1 < 0 ∨ fw_l S3 b4 ≤ p1.toNatClampNeg then none else
  (fw_let (fw_g S3 b4 p1.toNatClampNeg) (fun x6 =>
  (fw_om (fw_r S3 a0 26) none (fun b7 =>
  (if p1 < 0 ∨ fw_l S3 b7 ≤ p1.toNatClampNeg then none else
  (fw_om (fw_r S3 a0 22) none (fun b9 =>
  (if p1 < 0 ∨ fw_l S3 b9 ≤ p1.toNatClampNeg then none else
  (if (fw_g S3 b9 p1.toNatClampNeg) = 0 then none else
  (fw_let (((fw_g S3 b7 p1.toNatClampNeg) * (1000 : Int32)) / (fw_g S3 b9 p1.toNatClampNeg)) (fun x12 =>
  (fw_om (fw_r S3 a0 36) ((fw_om (fw_r S3 a0 37) none (fun b14 =>
  (if x6 < 0 ∨ fw_l S3 b14 ≤ x6.toNatClampNeg then none else
  (if (fw_g S3 b14 x6.toNatClampNeg) = 0 then
  none
  else
  (fw_om (fw_r S3 a0 36) none (fun b16 =>
  (if x6 < 0 ∨ fw_l S3 b16 ≤ x6.toNatClampNeg then none else
  none)))))))) (fun b13 =>
  (fw_om (fw_r S3 a0 37) none (fun b18 =>
  (if x6 < 0 ∨ fw_l S3 b18 ≤ x6.toNatClampNeg then none else
  (if (fw_g S3 b18 x6.toNatClampNeg) = 0 then
  (if x6 < 0 ∨ fw_l S3 b13 ≤ x6.toNatClampNeg then none else
  (fw_let (fw_wi S3 b13 x6.toNatClampNeg x12) (fun S21 =>
  (fw_om (fw_r S21 a0 37) none (fun b22 =>
  (if x6 < 0 ∨ fw_l S21 b22 ≤ x6.toNatClampNeg then none else
  (fw_let (fw_wi S21 b22 x6.toNatClampNeg (1 : Int32)) (fun S24 =>
  (some S24)))))))))
  else
  (fw_om (fw_r S3 a0 36) none (fun b25 =>
  (if x6 < 0 ∨ fw_l S3 b25 ≤ x6.toNatClampNeg then none else
  (if x6 < 0 ∨ fw_l S3 b13 ≤ x6.toNatClampNeg then none else
  (fw_let (fw_wi S3 b13 x6.toNatClampNeg (((fw_g S3 b25 x6.toNatClampNeg) + x12) / (2 : Int32))) (fun S28 =>
  (fw_om (fw_r S28 a0 37) none (fun b29 =>
  (if x6 < 0 ∨ fw_l S28 b29 ≤ x6.toNatClampNeg then none else
  (fw_let (fw_wi S28 b29 x6.toNatClampNeg (1 : Int32)) (fun S31 =>
  (some S31)))))))))))))))))))))))))))))))))))))
def F_Mo_fail_j26 (v0 : Nat) (v1 : Int32) (s1 : Int32) (s2 : Int32) (S0 : fw_S) : Option (fw_S) :=
    none
def F_Mo_fail_j26x (v0 : Nat) (v1 : Int32) (s0 : Nat) (s1 : Int32) (s2 : Int32) (S0 : fw_S) : Option (fw_S) :=
    (if s1 < 0 ∨ fw_l S0 s0 ≤ s1.toNatClampNeg then none else
  (fw_let (fw_wi S0 s0 s1.toNatClampNeg s2) (fun S10 =>
  (fw_om (fw_r S10 v0 26) ((fw_om (fw_r S10 v0 16) none (fun b12 =>
  (if v1 < 0 ∨ fw_l S10 b12 ≤ v1.toNatClampNeg then none else
  (if (fw_g S10 b12 v1.toNatClampNeg) = 0 then
  (fw_om (fw_r S10 v0 26) none (fun b14 =>
  (if v1 < 0 ∨ fw_l S10 b14 ≤ v1.toNatClampNeg then none else
  none)))
  else
  none))))) (fun b11 =>
  (fw_om (fw_r S10 v0 16) none (fun b16 =>
  (if v1 < 0 ∨ fw_l S10 b16 ≤ v1.toNatClampNeg then none else
  (if (fw_g S10 b16 v1.toNatClampNeg) = 0 then
  (fw_om (fw_r S10 v0 26) none (fun b18 =>
  (if v1 < 0 ∨ fw_l S10 b18 ≤ v1.toNatClampNeg then none else
  (if v1 < 0 ∨ fw_l S10 b11 ≤ v1.toNatClampNeg then none else
  (fw_let (fw_wi S10 b11 v1.toNatClampNeg (fw_g S10 b18 v1.toNatClampNeg)) (fun S21 =>
  (some S21)))))))
  else
  (if v1 < 0 ∨ fw_l S10 b11 ≤ v1.toNatClampNeg then none else
  (fw_let (fw_wi S10 b11 v1.toNatClampNeg (0 : Int32)) (fun S23 =>
  (some S23)))))))))))))
def F_Mo_fail (a0 : Nat) (p1 : Int32) (p2 : Int32) (S0 : fw_S) : Option (fw_S) :=
  (fw_om (fw_r S0 a0 18) none (fun b1 =>
  (if p1 < 0 ∨ fw_l S0 b1 ≤ p1.toNatClampNeg then none else
  (fw_let (fw_wi S0 b1 p1.toNatClampNeg p2) (fun S3 =>
  (fw_om (fw_r S3 a0 17) ((fw_om (fw_r S3 a0 16) none (fun b5 =>
  (if p1 < 0 ∨ fw_l S3 b5 ≤ p1.toNatClampNeg then none else
  (if (fw_g S3 b5 p1.toNatClampNeg) = 0 then
  F_Mo_fail_j26 a0 p1 p1 (2 : Int32) S3
  else
  F_Mo_fail_j26 a0 p1 p1 (1 : Int32) S3))))) (fun b4 =>
  (fw_om (fw_r S3 a0 16) none (fun b7 =>
  (if p1 < 0 ∨ fw_l S3 b7 ≤ p1.toNatClampNeg then none else
  (if (fw_g S3 b7 p1.toNatClampNeg) = 0 then
  F_Mo_fail_j26x a0 p1 b4 p1 (2 : Int32) S3
  else
  F_Mo_fail_j26x a0 p1 b4 p1 (1 : Int32) S3)))))))))))
def F_Mo_isFailedSilently (a0 : Nat) (p1 : Int32) (S0 : fw_S) : Option (Int32) :=
  (fw_om (fw_r S0 a0 17) none (fun b1 =>
  (if p1 < 0 ∨ fw_l S0 b1 ≤ p1.toNatClampNeg then none else
  (if ¬ (fw_g S0 b1 p1.toNatClampNeg) = (1 : Int32) then
  (some (0 : Int32))
  else
  (fw_om (fw_r S0 a0 18) none (fun b3 =>
  (if p1 < 0 ∨ fw_l S0 b3 ≤ p1.toNatClampNeg then none else
  (if (fw_g S0 b3 p1.toNatClampNeg) ≤ 0 then
  (some (0 : Int32))
  else
  (some (1 : Int32))))))))))
def F_Mo_setting_j114 (v0 : Nat) (v1 : Int32) (v2 : Int32) (v4 : Int32) (s0 : Nat) (s1 : Int32) (S0 : fw_S) : Option (Int32 × fw_S) :=
    (fw_let (fw_wi S0 s0 6 s1) (fun S2 =>
  (if ¬ v1 = (2 : Int32) then
  (fw_let (fw_wi S2 v0 7 (fw_g S2 v0 7)) (fun S3 =>
  (some (v4, S3))))
  else
  (fw_let (fw_wi S2 v0 7 v2) (fun S4 =>
  (some (v4, S4)))))))
def F_Mo_setting_j97 (v0 : Nat) (v1 : Int32) (v2 : Int32) (v4 : Int32) (s0 : Nat) (s1 : Int32) (S0 : fw_S) : Option (Int32 × fw_S) :=
    (fw_let (fw_wi S0 s0 5 s1) (fun S1 =>
  (if ¬ v1 = (1 : Int32) then
  F_Mo_setting_j114 v0 v1 v2 v4 v0 (fw_g S1 v0 6) S1
  else
  F_Mo_setting_j114 v0 v1 v2 v4 v0 v2 S1)))
def F_Mo_setting_j82 (v0 : Nat) (v1 : Int32) (v2 : Int32) (s0 : Int32) (S0 : fw_S) : Option (Int32 × fw_S) :=
    (if ¬ v1 = 0 then
  F_Mo_setting_j97 v0 v1 v2 s0 v0 (fw_g S0 v0 5) S0
  else
  F_Mo_setting_j97 v0 v1 v2 s0 v0 v2 S0)
def F_Mo_setting_j48 (v0 : Nat) (v1 : Int32) (v2 : Int32) (s0 : Int32) (S0 : fw_S) : Option (Int32 × fw_S) :=
    (if ¬ s0 = 0 then
  (if ¬ v1 = 0 then
  (if ¬ v1 = (1 : Int32) then
  F_Mo_setting_j82 v0 v1 v2 (fw_g S0 v0 7) S0
  else
  F_Mo_setting_j82 v0 v1 v2 (fw_g S0 v0 6) S0)
  else
  F_Mo_setting_j82 v0 v1 v2 (fw_g S0 v0 5) S0)
  else
  (some ((-1 : Int32), S0)))
def F_Mo_setting_j47 (v0 : Nat) (v1 : Int32) (v2 : Int32) (S0 : fw_S) : Option (Int32 × fw_S) :=
    F_Mo_setting_j48 v0 v1 v2 (0 : Int32) S0
def F_Mo_setting_j43 (v0 : Nat) (v1 : Int32) (v2 : Int32) (S0 : fw_S) : Option (Int32 × fw_S) :=
    F_Mo_setting_j48 v0 v1 v2 (1 : Int32) S0
def F_Mo_setting_j29 (v0 : Nat) (v1 : Int32) (v2 : Int32) (S0 : fw_S) : Option (Int32 × fw_S) :=
    (if ¬ v1 = (2 : Int32) then
  F_Mo_setting_j47 v0 v1 v2 S0
  else
  (Option.bind (F_Mo_isIn v2 (0 : Int32) (5 : Int32) S0) (fun x5 =>
  (if x5 = 0 then
  F_Mo_setting_j47 v0 v1 v2 S0
  else
  F_Mo_setting_j43 v0 v1 v2 S0))))
def F_Mo_setting_j14 (v0 : Nat) (v1 : Int32) (v2 : Int32) (S0 : fw_S) : Option (Int32 × fw_S) :=
    (if ¬ v1 = (1 : Int32) then
  F_Mo_setting_j29 v0 v1 v2 S0
  else
  (Option.bind (F_Mo_isIn v2 (1 : Int32) (100 : Int32) S0) (fun x7 =>
  (if ¬ x7 = 0 then
  F_Mo_setting_j43 v0 v1 v2 S0
  else
  F_Mo_setting_j29 v0 v1 v2 S0))))
def F_Mo_setting (a0 : Nat) (p1 : Int32) (p2 : Int32) (S0 : fw_S) : Option (Int32 × fw_S) :=
  (if ¬ p1 = 0 then
  F_Mo_setting_j14 a0 p1 p2 S0
  else
  (Option.bind (F_Mo_isIn p2 (1 : Int32) (8 : Int32) S0) (fun x9 =>
  (if ¬ x9 = 0 then
  F_Mo_setting_j43 a0 p1 p2 S0
  else
  F_Mo_setting_j14 a0 p1 p2 S0))))
def F_Mo_bind (a0 : Nat) (p1 : Int32) (p2 : Int32) (S0 : fw_S) : Option (Int32 × fw_S) :=
  (Option.bind (F_Mo_isIn p1 (0 : Int32) (255 : Int32) S0) (fun x1 =>
  (if ¬ x1 = 0 then
  (if ¬ (fw_g S0 a0 11) = (20 : Int32) then
  (fw_om (fw_r S0 a0 12) none (fun b3 =>
  (if (fw_g S0 a0 11) < 0 ∨ fw_l S0 b3 ≤ (fw_g S0 a0 11).toNatClampNeg then none else
  (fw_let (fw_wi S0 b3 (fw_g S0 a0 11).toNatClampNeg p1) (fun S5 =>
  (fw_om (fw_r S5 a0 13) none (fun b6 =>
  (if (fw_g S5 a0 11) < 0 ∨ fw_l S5 b6 ≤ (fw_g S5 a0 11).toNatClampNeg then none else
  (fw_let (fw_wi S5 b6 (fw_g S5 a0 11).toNatClampNeg p2) (fun S8 =>
  (fw_let (fw_wi S8 a0 11 ((fw_g S8 a0 11) + (1 : Int32))) (fun S9 =>
  (some ((fw_g S9 a0 11), S9))))))))))))))
  else
  (some ((-3 : Int32), S0)))
  else
  (some ((-1 : Int32), S0)))))
def F_Mo_addKey_j34 (v0 : Nat) (v1 : Int32) (v2 : Int32) (S0 : fw_S) : Option (fw_S) :=
    (fw_om (fw_r S0 v0 23) ((fw_om (fw_r S0 v0 22) none (fun b4 =>
  (if v1 < 0 ∨ fw_l S0 b4 ≤ v1.toNatClampNeg then none else
  none)))) (fun b3 =>
  (fw_om (fw_r S0 v0 22) none (fun b6 =>
  (if v1 < 0 ∨ fw_l S0 b6 ≤ v1.toNatClampNeg then none else
  (if (((20 : Int32) * v1) + (fw_g S0 b6 v1.toNatClampNeg)) < 0 ∨ fw_l S0 b3 ≤ (((20 : Int32) * v1) + (fw_g S0 b6 v1.toNatClampNeg)).toNatClampNeg then none else
  (fw_let (fw_wi S0 b3 (((20 : Int32) * v1) + (fw_g S0 b6 v1.toNatClampNeg)).toNatClampNeg v2) (fun S9 =>
  (fw_om (fw_r S9 v0 22) none (fun b10 =>
  (if v1 < 0 ∨ fw_l S9 b10 ≤ v1.toNatClampNeg then none else
  (if v1 < 0 ∨ fw_l S9 b10 ≤ v1.toNatClampNeg then none else
  (fw_let (fw_wi S9 b10 v1.toNatClampNeg ((fw_g S9 b10 v1.toNatClampNeg) + (1 : Int32))) (fun S13 =>
  (some S13)))))))))))))))
def F_Mo_addKey_l2 : Nat → Nat → Int32 → Int32 → Int32 → fw_S → Option (fw_S)
  | 0, _, _, _, _, _ => none
  | n + 1, v0, v1, v2, v3, S0 =>
    (fw_om (fw_r S0 v0 22) none (fun b1 =>
  (if v1 < 0 ∨ fw_l S0 b1 ≤ v1.toNatClampNeg then none else
  (if (fw_g S0 b1 v1.toNatClampNeg) ≤ v3 then
  F_Mo_addKey_j34 v0 v1 v2 S0
  else
  (fw_om (fw_r S0 v0 23) none (fun b14 =>
  (if (((20 : Int32) * v1) + v3) < 0 ∨ fw_l S0 b14 ≤ (((20 : Int32) * v1) + v3).toNatClampNeg then none else
  (if ¬ (fw_g S0 b14 (((20 : Int32) * v1) + v3).toNatClampNeg) = v2 then
  F_Mo_addKey_l2 n v0 v1 v2 (v3 + (1 : Int32)) S0
  else
  (some S0)))))))))
def F_Mo_addKey (a0 : Nat) (p1 : Int32) (p2 : Int32) (S0 : fw_S) : Option (fw_S) :=
  F_Mo_addKey_l2 4096 a0 p1 p2 (0 : Int32) S0
def F_Mo_ask_j140 (v0 : Nat) (v3 : Int32) (S0 : fw_S) : Option (Int32 × fw_S) :=
    (fw_let (fw_wi S0 v0 11 (0 : Int32)) (fun S18 =>
  (fw_om (fw_r S18 v0 22) none (fun b19 =>
  (if v3 < 0 ∨ fw_l S18 b19 ≤ v3.toNatClampNeg then none else
  (if ¬ (fw_g S18 b19 v3.toNatClampNeg) = 0 then
  (Option.bind (F_Mo_askPart v0 v3 S18) (fun S21 =>
  (some (v3, S21))))
  else
  (fw_om (fw_r S18 v0 17) none (fun b23 =>
  (if v3 < 0 ∨ fw_l S18 b23 ≤ v3.toNatClampNeg then none else
  (fw_let (fw_wi S18 b23 v3.toNatClampNeg (1 : Int32)) (fun S25 =>
  (fw_om (fw_r S25 v0 30) none (fun b26 =>
  (if v3 < 0 ∨ fw_l S25 b26 ≤ v3.toNatClampNeg then none else
  (fw_let (fw_wi S25 b26 v3.toNatClampNeg (-1 : Int32)) (fun S28 =>
  (some (v3, S28))))))))))))))))))
def F_Mo_ask_l75 : Nat → Nat → Int32 → Int32 → fw_S → Option (Int32 × fw_S)
  | 0, _, _, _, _ => none
  | n + 1, v0, v3, v4, S0 =>
    (if (fw_g S0 v0 11) ≤ v4 then
  F_Mo_ask_j140 v0 v3 S0
  else
  (fw_om (fw_r S0 v0 20) ((fw_om (fw_r S0 v0 12) none (fun b30 =>
  (if v4 < 0 ∨ fw_l S0 b30 ≤ v4.toNatClampNeg then none else
  none)))) (fun b29 =>
  (fw_om (fw_r S0 v0 12) none (fun b32 =>
  (if v4 < 0 ∨ fw_l S0 b32 ≤ v4.toNatClampNeg then none else
  (if (((20 : Int32) * v3) + v4) < 0 ∨ fw_l S0 b29 ≤ (((20 : Int32) * v3) + v4).toNatClampNeg then none else
  (fw_let (fw_wi S0 b29 (((20 : Int32) * v3) + v4).toNatClampNeg (fw_g S0 b32 v4.toNatClampNeg)) (fun S35 =>
  (fw_om (fw_r S35 v0 21) ((fw_om (fw_r S35 v0 13) none (fun b37 =>
  (if v4 < 0 ∨ fw_l S35 b37 ≤ v4.toNatClampNeg then none else
  none)))) (fun b36 =>
  (fw_om (fw_r S35 v0 13) none (fun b39 =>
  (if v4 < 0 ∨ fw_l S35 b39 ≤ v4.toNatClampNeg then none else
  (if (((20 : Int32) * v3) + v4) < 0 ∨ fw_l S35 b36 ≤ (((20 : Int32) * v3) + v4).toNatClampNeg then none else
  (fw_let (fw_wi S35 b36 (((20 : Int32) * v3) + v4).toNatClampNeg (fw_g S35 b39 v4.toNatClampNeg)) (fun S42 =>
  (fw_om (fw_r S42 v0 12) none (fun b43 =>
  (if v4 < 0 ∨ fw_l S42 b43 ≤ v4.toNatClampNeg then none else
  (Option.bind (F_Mo_addKey v0 v3 (fw_g S42 b43 v4.toNatClampNeg) S42) (fun S45 =>
  F_Mo_ask_l75 n v0 v3 (v4 + (1 : Int32)) S45))))))))))))))))))))))
def F_Mo_ask (a0 : Nat) (p1 : Int32) (p2 : Int32) (S0 : fw_S) : Option (Int32 × fw_S) :=
  (Option.bind (F_Mo_isIn p1 (0 : Int32) (3 : Int32) S0) (fun x1 =>
  (if ¬ x1 = 0 then
  (if ¬ (fw_g S0 a0 14) = (24 : Int32) then
  (fw_let (fw_g S0 a0 14) (fun x3 =>
  (fw_let (fw_wi S0 a0 14 ((fw_g S0 a0 14) + (1 : Int32))) (fun S4 =>
  (fw_om (fw_r S4 a0 15) none (fun b5 =>
  (if x3 < 0 ∨ fw_l S4 b5 ≤ x3.toNatClampNeg then none else
  (fw_let (fw_wi S4 b5 x3.toNatClampNeg p1) (fun S7 =>
  (fw_om (fw_r S7 a0 16) none (fun b8 =>
  (if p2 = 0 ∨ p2 = 1 then
  (if x3 < 0 ∨ fw_l S7 b8 ≤ x3.toNatClampNeg then none else
  (fw_let (fw_wi S7 b8 x3.toNatClampNeg p2) (fun S11 =>
  (fw_om (fw_r S11 a0 24) none (fun b12 =>
  (if x3 < 0 ∨ fw_l S11 b12 ≤ x3.toNatClampNeg then none else
  (fw_let (fw_wi S11 b12 x3.toNatClampNeg (fw_g S11 a0 5)) (fun S14 =>
  (fw_om (fw_r S14 a0 19) none (fun b15 =>
  (if x3 < 0 ∨ fw_l S14 b15 ≤ x3.toNatClampNeg then none else
  (fw_let (fw_wi S14 b15 x3.toNatClampNeg (fw_g S14 a0 11)) (fun S17 =>
  F_Mo_ask_l75 4096 a0 x3 (0 : Int32) S17)))))))))))))
  else none))))))))))))
  else
  (some ((-3 : Int32), S0)))
  else
  (some ((-1 : Int32), S0)))))
def F_Mo_isDropped_j242 (v0 : Nat) (v3 : Int32) (v6 : Int32) (S0 : fw_S) : Option (Int32 × fw_S) :=
    (fw_om (fw_r S0 v0 30) ((fw_om (fw_r S0 v0 30) none (fun b19 =>
  (if v3 < 0 ∨ fw_l S0 b19 ≤ v3.toNatClampNeg then none else
  none)))) (fun b18 =>
  (fw_om (fw_r S0 v0 30) none (fun b21 =>
  (if v3 < 0 ∨ fw_l S0 b21 ≤ v3.toNatClampNeg then none else
  (if v3 < 0 ∨ fw_l S0 b18 ≤ v3.toNatClampNeg then none else
  (fw_let (fw_wi S0 b18 v3.toNatClampNeg (((fw_g S0 b21 v3.toNatClampNeg) + (1 : Int32)) &&& (255 : Int32))) (fun S24 =>
  (if v6 = 0 then
  (Option.bind (F_Mo_askPart v0 v3 S24) (fun S25 =>
  (some ((0 : Int32), S25))))
  else
  (fw_let (fw_wi S24 v0 49 (0 : Int32)) (fun S27 =>
  (fw_om (fw_r S27 v0 30) none (fun b28 =>
  (if v3 < 0 ∨ fw_l S27 b28 ≤ v3.toNatClampNeg then none else
  (Option.bind (F_Mo_put v0 (fw_g S27 b28 v3.toNatClampNeg) S27) (fun S30 =>
  (fw_om (fw_r S30 v0 29) none (fun b32 =>
  (if v3 < 0 ∨ fw_l S30 b32 ≤ v3.toNatClampNeg then none else
  (Option.bind (F_Mo_put v0 (fw_g S30 b32 v3.toNatClampNeg) S30) (fun S34 =>
  (Option.bind (F_Mo_keep v0 v3 (3 : Int32) S34) (fun S36 =>
  (some ((0 : Int32), S36)))))))))))))))))))))))))
def F_Mo_isDropped_j213 (v0 : Nat) (v3 : Int32) (s0 : Int32) (S0 : fw_S) : Option (Int32 × fw_S) :=
    (if ¬ s0 = 0 then
  F_Mo_isDropped_j242 v0 v3 s0 S0
  else
  (fw_om (fw_r S0 v0 25) none (fun b38 =>
  (if v3 < 0 ∨ fw_l S0 b38 ≤ v3.toNatClampNeg then none else
  (fw_om (fw_r S0 v0 22) none (fun b40 =>
  (if v3 < 0 ∨ fw_l S0 b40 ≤ v3.toNatClampNeg then none else
  (if ¬ (fw_g S0 b38 v3.toNatClampNeg) = (fw_g S0 b40 v3.toNatClampNeg) then
  F_Mo_isDropped_j242 v0 v3 s0 S0
  else
  (Option.bind (F_Mo_finish v0 v3 S0) (fun S42 =>
  (some ((0 : Int32), S42))))))))))))
def F_Mo_isDropped_j184 (v0 : Nat) (v3 : Int32) (v4 : Int32) (v5 : Int32) (S0 : fw_S) : Option (Int32 × fw_S) :=
    (fw_om (fw_r S0 v0 29) none (fun b12 =>
  (if v3 < 0 ∨ fw_l S0 b12 ≤ v3.toNatClampNeg then none else
  (if v3 < 0 ∨ fw_l S0 b12 ≤ v3.toNatClampNeg then none else
  (fw_let (fw_wi S0 b12 v3.toNatClampNeg ((fw_g S0 b12 v3.toNatClampNeg) + v5)) (fun S15 =>
  (fw_om (fw_r S15 v0 3) none (fun b16 =>
  (if (v4 + (5 : Int32)) < 0 ∨ fw_l S15 b16 ≤ (v4 + (5 : Int32)).toNatClampNeg then none else
  (if ¬ (fw_g S15 b16 (v4 + (5 : Int32)).toNatClampNeg) = (1 : Int32) then
  F_Mo_isDropped_j213 v0 v3 (0 : Int32) S15
  else
  F_Mo_isDropped_j213 v0 v3 (1 : Int32) S15))))))))))
def F_Mo_isDropped_l88 : Nat → Nat → Int32 → Int32 → Int32 → Int32 → fw_S → Option (Int32 × fw_S)
  | 0, _, _, _, _, _, _ => none
  | n + 1, v0, v3, v4, v5, v6, S0 =>
    (if v5 ≤ v6 then
  F_Mo_isDropped_j184 v0 v3 v4 v5 S0
  else
  (fw_om (fw_r S0 v0 26) none (fun b44 =>
  (if v3 < 0 ∨ fw_l S0 b44 ≤ v3.toNatClampNeg then none else
  (if (60 : Int32) ≤ (fw_g S0 b44 v3.toNatClampNeg) then
  F_Mo_isDropped_l88 n v0 v3 v4 v5 (v6 + (1 : Int32)) S0
  else
  (fw_om (fw_r S0 v0 27) ((fw_om (fw_r S0 v0 26) none (fun b47 =>
  (if v3 < 0 ∨ fw_l S0 b47 ≤ v3.toNatClampNeg then none else
  (fw_om (fw_r S0 v0 3) none (fun b49 =>
  (if ((v4 + (6 : Int32)) + ((2 : Int32) * v6)) < 0 ∨ fw_l S0 b49 ≤ ((v4 + (6 : Int32)) + ((2 : Int32) * v6)).toNatClampNeg then none else
  none))))))) (fun b46 =>
  (fw_om (fw_r S0 v0 26) none (fun b51 =>
  (if v3 < 0 ∨ fw_l S0 b51 ≤ v3.toNatClampNeg then none else
  (fw_om (fw_r S0 v0 3) none (fun b53 =>
  (if ((v4 + (6 : Int32)) + ((2 : Int32) * v6)) < 0 ∨ fw_l S0 b53 ≤ ((v4 + (6 : Int32)) + ((2 : Int32) * v6)).toNatClampNeg then none else
  (if (((60 : Int32) * v3) + (fw_g S0 b51 v3.toNatClampNeg)) < 0 ∨ fw_l S0 b46 ≤ (((60 : Int32) * v3) + (fw_g S0 b51 v3.toNatClampNeg)).toNatClampNeg then none else
  (fw_let (fw_wi S0 b46 (((60 : Int32) * v3) + (fw_g S0 b51 v3.toNatClampNeg)).toNatClampNeg (fw_g S0 b53 ((v4 + (6 : Int32)) + ((2 : Int32) * v6)).toNatClampNeg)) (fun S56 =>
  (fw_om (fw_r S56 v0 28) ((fw_om (fw_r S56 v0 26) none (fun b58 =>
  (if v3 < 0 ∨ fw_l S56 b58 ≤ v3.toNatClampNeg then none else
  (fw_om (fw_r S56 v0 3) none (fun b60 =>
  (if ((v4 + (7 : Int32)) + ((2 : Int32) * v6)) < 0 ∨ fw_l S56 b60 ≤ ((v4 + (7 : Int32)) + ((2 : Int32) * v6)).toNatClampNeg then none else
  none))))))) (fun b57 =>
  (fw_om (fw_r S56 v0 26) none (fun b62 =>
  (if v3 < 0 ∨ fw_l S56 b62 ≤ v3.toNatClampNeg then none else
  (fw_om (fw_r S56 v0 3) none (fun b64 =>
  (if ((v4 + (7 : Int32)) + ((2 : Int32) * v6)) < 0 ∨ fw_l S56 b64 ≤ ((v4 + (7 : Int32)) + ((2 : Int32) * v6)).toNatClampNeg then none else
  (if (((60 : Int32) * v3) + (fw_g S56 b62 v3.toNatClampNeg)) < 0 ∨ fw_l S56 b57 ≤ (((60 : Int32) * v3) + (fw_g S56 b62 v3.toNatClampNeg)).toNatClampNeg then none else
  (fw_let (fw_wi S56 b57 (((60 : Int32) * v3) + (fw_g S56 b62 v3.toNatClampNeg)).toNatClampNeg (fw_g S56 b64 ((v4 + (7 : Int32)) + ((2 : Int32) * v6)).toNatClampNeg)) (fun S67 =>
  (fw_om (fw_r S67 v0 26) none (fun b68 =>
  (if v3 < 0 ∨ fw_l S67 b68 ≤ v3.toNatClampNeg then none else
  (if v3 < 0 ∨ fw_l S67 b68 ≤ v3.toNatClampNeg then none else
  (fw_let (fw_wi S67 b68 v3.toNatClampNeg ((fw_g S67 b68 v3.toNatClampNeg) + (1 : Int32))) (fun S71 =>
  F_Mo_isDropped_l88 n v0 v3 v4 v5 (v6 + (1 : Int32)) S71)))))))))))))))))))))))))))))))))
def F_Mo_isDropped_j10 (v0 : Nat) (v1 : Int32) (v2 : Int32) (v3 : Int32) (v4 : Int32) (S0 : fw_S) : Option (Int32 × fw_S) :=
    (if (fw_g S0 v0 14) ≤ v3 then
  (some ((1 : Int32), S0))
  else
  (fw_om (fw_r S0 v0 17) none (fun b1 =>
  (if v3 < 0 ∨ fw_l S0 b1 ≤ v3.toNatClampNeg then none else
  (if ¬ (fw_g S0 b1 v3.toNatClampNeg) = 0 then
  (some ((1 : Int32), S0))
  else
  (fw_om (fw_r S0 v0 15) none (fun b3 =>
  (if v3 < 0 ∨ fw_l S0 b3 ≤ v3.toNatClampNeg then none else
  (if ¬ (fw_g S0 b3 v3.toNatClampNeg) = v1 then
  (some ((1 : Int32), S0))
  else
  (fw_om (fw_r S0 v0 30) none (fun b5 =>
  (if v3 < 0 ∨ fw_l S0 b5 ≤ v3.toNatClampNeg then none else
  (fw_om (fw_r S0 v0 3) none (fun b7 =>
  (if (v4 + (4 : Int32)) < 0 ∨ fw_l S0 b7 ≤ (v4 + (4 : Int32)).toNatClampNeg then none else
  (if (fw_g S0 b5 v3.toNatClampNeg) = (fw_g S0 b7 (v4 + (4 : Int32)).toNatClampNeg) then
  (if ¬ v2 = (4 : Int32) then
  (fw_om (fw_r S0 v0 3) none (fun b9 =>
  (if (v4 + (3 : Int32)) < 0 ∨ fw_l S0 b9 ≤ (v4 + (3 : Int32)).toNatClampNeg then none else
  (fw_let (((fw_g S0 b9 (v4 + (3 : Int32)).toNatClampNeg) / (2 : Int32)) - (1 : Int32)) (fun x11 =>
  F_Mo_isDropped_l88 4096 v0 v3 v4 x11 (0 : Int32) S0)))))
  else
  (Option.bind (F_Mo_fail v0 v3 (3 : Int32) S0) (fun S72 =>
  (some ((0 : Int32), S72)))))
  else
  (some ((1 : Int32), S0))))))))))))))))))
def F_Mo_isDropped (a0 : Nat) (p1 : Int32) (p2 : Int32) (p3 : Int32) (p4 : Int32) (S0 : fw_S) : Option (Int32 × fw_S) :=
  (if p2 = (2 : Int32) then
  F_Mo_isDropped_j10 a0 p1 p2 p3 p4 S0
  else
  (if ¬ p2 = (4 : Int32) then
  (some ((1 : Int32), S0))
  else
  F_Mo_isDropped_j10 a0 p1 p2 p3 p4 S0))
def F_Mo_fact (a0 : Nat) (p1 : Int32) (p2 : Int32) (S0 : fw_S) : Option (Int32 × fw_S) :=
  (Option.bind (F_Mo_isIn p1 (0 : Int32) (255 : Int32) S0) (fun x1 =>
  (if x1 = 0 then
  (some ((-1 : Int32), S0))
  else
  (Option.bind (F_Mo_isIn p2 (0 : Int32) (255 : Int32) S0) (fun x3 =>
  (if ¬ x3 = 0 then
  (if ¬ (fw_g S0 a0 38) = (60 : Int32) then
  (fw_om (fw_r S0 a0 39) none (fun b5 =>
  (if (fw_g S0 a0 38) < 0 ∨ fw_l S0 b5 ≤ (fw_g S0 a0 38).toNatClampNeg then none else
  (fw_let (fw_wi S0 b5 (fw_g S0 a0 38).toNatClampNeg p1) (fun S7 =>
  (fw_om (fw_r S7 a0 40) none (fun b8 =>
  (if (fw_g S7 a0 38) < 0 ∨ fw_l S7 b8 ≤ (fw_g S7 a0 38).toNatClampNeg then none else
  (fw_let (fw_wi S7 b8 (fw_g S7 a0 38).toNatClampNeg p2) (fun S10 =>
  (fw_let (fw_wi S10 a0 38 ((fw_g S10 a0 38) + (1 : Int32))) (fun S11 =>
  (some ((fw_g S11 a0 38), S11))))))))))))))
  else
  (some ((-3 : Int32), S0)))
  else
  (some ((-1 : Int32), S0))))))))
def F_Mo_placeOf_l4 (S0 : fw_S) : Nat → Nat → Int32 → Int32 → Int32 → Option (Int32)
  | 0, _, _, _, _ => none
  | n + 1, v0, v1, v2, v3 =>
    (if (fw_g S0 v0 41) ≤ v3 then
  (some v2)
  else
  (fw_om (fw_r S0 v0 43) none (fun b1 =>
  (if v3 < 0 ∨ fw_l S0 b1 ≤ v3.toNatClampNeg then none else
  (if ¬ (fw_g S0 b1 v3.toNatClampNeg) = v1 then
  F_Mo_placeOf_l4 S0 n v0 v1 v2 (v3 + (1 : Int32))
  else
  F_Mo_placeOf_l4 S0 n v0 v1 v3 (v3 + (1 : Int32)))))))
def F_Mo_placeOf (a0 : Nat) (p1 : Int32) (S0 : fw_S) : Option (Int32) :=
  F_Mo_placeOf_l4 S0 4096 a0 p1 (-1 : Int32) (0 : Int32)
def F_Mo_copy_l50 : Nat → Nat → Int32 → Int32 → Int32 → fw_S → Option (fw_S)
  | 0, _, _, _, _, _ => none
  | n + 1, v0, v1, v2, v3, S0 =>
    (if (60 : Int32) ≤ v3 then
  (some S0)
  else
  (fw_om (fw_r S0 v0 47) ((fw_om (fw_r S0 v0 47) none (fun b30 =>
  (if (((60 : Int32) * v2) + v3) < 0 ∨ fw_l S0 b30 ≤ (((60 : Int32) * v2) + v3).toNatClampNeg then none else
  none)))) (fun b29 =>
  (fw_om (fw_r S0 v0 47) none (fun b32 =>
  (if (((60 : Int32) * v2) + v3) < 0 ∨ fw_l S0 b32 ≤ (((60 : Int32) * v2) + v3).toNatClampNeg then none else
  (if (((60 : Int32) * v1) + v3) < 0 ∨ fw_l S0 b29 ≤ (((60 : Int32) * v1) + v3).toNatClampNeg then none else
  (fw_let (fw_wi S0 b29 (((60 : Int32) * v1) + v3).toNatClampNeg (fw_g S0 b32 (((60 : Int32) * v2) + v3).toNatClampNeg)) (fun S35 =>
  (fw_om (fw_r S35 v0 48) ((fw_om (fw_r S35 v0 48) none (fun b37 =>
  (if (((60 : Int32) * v2) + v3) < 0 ∨ fw_l S35 b37 ≤ (((60 : Int32) * v2) + v3).toNatClampNeg then none else
  none)))) (fun b36 =>
  (fw_om (fw_r S35 v0 48) none (fun b39 =>
  (if (((60 : Int32) * v2) + v3) < 0 ∨ fw_l S35 b39 ≤ (((60 : Int32) * v2) + v3).toNatClampNeg then none else
  (if (((60 : Int32) * v1) + v3) < 0 ∨ fw_l S35 b36 ≤ (((60 : Int32) * v1) + v3).toNatClampNeg then none else
  (fw_let (fw_wi S35 b36 (((60 : Int32) * v1) + v3).toNatClampNeg (fw_g S35 b39 (((60 : Int32) * v2) + v3).toNatClampNeg)) (fun S42 =>
  F_Mo_copy_l50 n v0 v1 v2 (v3 + (1 : Int32)) S42)))))))))))))))))
def F_Mo_copy (a0 : Nat) (p1 : Int32) (p2 : Int32) (S0 : fw_S) : Option (fw_S) :=
  (fw_om (fw_r S0 a0 43) ((fw_om (fw_r S0 a0 43) none (fun b2 =>
  (if p2 < 0 ∨ fw_l S0 b2 ≤ p2.toNatClampNeg then none else
  none)))) (fun b1 =>
  (fw_om (fw_r S0 a0 43) none (fun b4 =>
  (if p2 < 0 ∨ fw_l S0 b4 ≤ p2.toNatClampNeg then none else
  (if p1 < 0 ∨ fw_l S0 b1 ≤ p1.toNatClampNeg then none else
  (fw_let (fw_wi S0 b1 p1.toNatClampNeg (fw_g S0 b4 p2.toNatClampNeg)) (fun S7 =>
  (fw_om (fw_r S7 a0 44) ((fw_om (fw_r S7 a0 44) none (fun b9 =>
  (if p2 < 0 ∨ fw_l S7 b9 ≤ p2.toNatClampNeg then none else
  none)))) (fun b8 =>
  (fw_om (fw_r S7 a0 44) none (fun b11 =>
  (if p2 < 0 ∨ fw_l S7 b11 ≤ p2.toNatClampNeg then none else
  (if p1 < 0 ∨ fw_l S7 b8 ≤ p1.toNatClampNeg then none else
  (fw_let (fw_wi S7 b8 p1.toNatClampNeg (fw_g S7 b11 p2.toNatClampNeg)) (fun S14 =>
  (fw_om (fw_r S14 a0 45) ((fw_om (fw_r S14 a0 45) none (fun b16 =>
  (if p2 < 0 ∨ fw_l S14 b16 ≤ p2.toNatClampNeg then none else
  none)))) (fun b15 =>
  (fw_om (fw_r S14 a0 45) none (fun b18 =>
  (if p2 < 0 ∨ fw_l S14 b18 ≤ p2.toNatClampNeg then none else
  (if p1 < 0 ∨ fw_l S14 b15 ≤ p1.toNatClampNeg then none else
  (fw_let (fw_wi S14 b15 p1.toNatClampNeg (fw_g S14 b18 p2.toNatClampNeg)) (fun S21 =>
  (fw_om (fw_r S21 a0 46) ((fw_om (fw_r S21 a0 46) none (fun b23 =>
  (if p2 < 0 ∨ fw_l S21 b23 ≤ p2.toNatClampNeg then none else
  none)))) (fun b22 =>
  (fw_om (fw_r S21 a0 46) none (fun b25 =>
  (if p2 < 0 ∨ fw_l S21 b25 ≤ p2.toNatClampNeg then none else
  (if p1 < 0 ∨ fw_l S21 b22 ≤ p1.toNatClampNeg then none else
  (fw_let (fw_wi S21 b22 p1.toNatClampNeg (fw_g S21 b25 p2.toNatClampNeg)) (fun S28 =>
  F_Mo_copy_l50 4096 a0 p1 p2 (0 : Int32) S28))))))))))))))))))))))))))))))))
def F_Mo_forget_l12 : Nat → Nat → Int32 → fw_S → Option (fw_S)
  | 0, _, _, _ => none
  | n + 1, v0, v2, S0 =>
    (if (fw_g S0 v0 41) ≤ v2 then
  (some S0)
  else
  (Option.bind (F_Mo_copy v0 v2 (v2 + (1 : Int32)) S0) (fun S2 =>
  F_Mo_forget_l12 n v0 (v2 + (1 : Int32)) S2)))
def F_Mo_forget (a0 : Nat) (p1 : Int32) (S0 : fw_S) : Option (fw_S) :=
  (fw_let (fw_wi S0 a0 41 ((fw_g S0 a0 41) - (1 : Int32))) (fun S1 =>
  F_Mo_forget_l12 4096 a0 p1 S1))
def F_Mo_answer_j100 (v0 : Nat) (v2 : Int32) (S0 : fw_S) : Option (fw_S) :=
    (fw_b2 (F_Mo_send v0 (4 : Int32) (2 : Int32) v2 S0) (fun x12 S11 =>
  (some S11)))
def F_Mo_answer_l41 : Nat → Nat → Int32 → Int32 → Int32 → Int32 → fw_S → Option (fw_S)
  | 0, _, _, _, _, _, _ => none
  | n + 1, v0, v1, v2, v4, v6, S0 =>
    (fw_om (fw_r S0 v0 46) none (fun b9 =>
  (if v1 < 0 ∨ fw_l S0 b9 ≤ v1.toNatClampNeg then none else
  (if (fw_g S0 b9 v1.toNatClampNeg) ≤ v6 then
  F_Mo_answer_j100 v0 v2 S0
  else
  (if (v4 + (8 : Int32)) ≤ v6 then
  F_Mo_answer_j100 v0 v2 S0
  else
  (fw_om (fw_r S0 v0 47) none (fun b14 =>
  (if (((60 : Int32) * v1) + v6) < 0 ∨ fw_l S0 b14 ≤ (((60 : Int32) * v1) + v6).toNatClampNeg then none else
  (Option.bind (F_Mo_put v0 (fw_g S0 b14 (((60 : Int32) * v1) + v6).toNatClampNeg) S0) (fun S16 =>
  (fw_om (fw_r S16 v0 48) none (fun b18 =>
  (if (((60 : Int32) * v1) + v6) < 0 ∨ fw_l S16 b18 ≤ (((60 : Int32) * v1) + v6).toNatClampNeg then none else
  (Option.bind (F_Mo_put v0 (fw_g S16 b18 (((60 : Int32) * v1) + v6).toNatClampNeg) S16) (fun S20 =>
  F_Mo_answer_l41 n v0 v1 v2 v4 (v6 + (1 : Int32)) S20)))))))))))))))
def F_Mo_answer (a0 : Nat) (p1 : Int32) (p2 : Int32) (p3 : Int32) (p4 : Int32) (S0 : fw_S) : Option (fw_S) :=
  (fw_om (fw_r S0 a0 46) none (fun b1 =>
  (if p1 < 0 ∨ fw_l S0 b1 ≤ p1.toNatClampNeg then none else
  (fw_let ((fw_g S0 b1 p1.toNatClampNeg) - p4) (fun x3 =>
  (fw_let (fw_wi S0 a0 49 (0 : Int32)) (fun S4 =>
  (Option.bind (F_Mo_put a0 p3 S4) (fun S5 =>
  (if x3 ≤ (8 : Int32) then
  (Option.bind (F_Mo_put a0 (0 : Int32) S5) (fun S7 =>
  F_Mo_answer_l41 4096 a0 p1 p2 p4 p4 S7))
  else
  (Option.bind (F_Mo_put a0 (1 : Int32) S5) (fun S22 =>
  F_Mo_answer_l41 4096 a0 p1 p2 p4 p4 S22))))))))))))
def F_Mo_remember_l113 (k97 : Nat → Int32 → Int32 → Int32 → fw_S → Option (fw_S)) : Nat → Nat → Int32 → Int32 → Int32 → Int32 → fw_S → Option (fw_S)
  | 0, _, _, _, _, _, _ => none
  | n + 1, v0, v2, v4, v5, v6, S0 =>
    (if (fw_g S0 v0 38) ≤ v6 then
  k97 v0 v2 v4 (v5 + (1 : Int32)) S0
  else
  (fw_om (fw_r S0 v0 39) none (fun b27 =>
  (if v6 < 0 ∨ fw_l S0 b27 ≤ v6.toNatClampNeg then none else
  (fw_om (fw_r S0 v0 3) none (fun b29 =>
  (if ((v2 + (4 : Int32)) + v5) < 0 ∨ fw_l S0 b29 ≤ ((v2 + (4 : Int32)) + v5).toNatClampNeg then none else
  (if ¬ (fw_g S0 b27 v6.toNatClampNeg) = (fw_g S0 b29 ((v2 + (4 : Int32)) + v5).toNatClampNeg) then
  F_Mo_remember_l113 k97 n v0 v2 v4 v5 (v6 + (1 : Int32)) S0
  else
  (fw_om (fw_r S0 v0 46) none (fun b31 =>
  (if v4 < 0 ∨ fw_l S0 b31 ≤ v4.toNatClampNeg then none else
  (if (60 : Int32) ≤ (fw_g S0 b31 v4.toNatClampNeg) then
  F_Mo_remember_l113 k97 n v0 v2 v4 v5 (v6 + (1 : Int32)) S0
  else
  (fw_om (fw_r S0 v0 47) ((fw_om (fw_r S0 v0 46) none (fun b34 =>
  (if v4 < 0 ∨ fw_l S0 b34 ≤ v4.toNatClampNeg then none else
  (fw_om (fw_r S0 v0 39) none (fun b36 =>
  (if v6 < 0 ∨ fw_l S0 b36 ≤ v6.toNatClampNeg then none else
  none))))))) (fun b33 =>
  (fw_om (fw_r S0 v0 46) none (fun b38 =>
  (if v4 < 0 ∨ fw_l S0 b38 ≤ v4.toNatClampNeg then none else
  (fw_om (fw_r S0 v0 39) none (fun b40 =>
  (if v6 < 0 ∨ fw_l S0 b40 ≤ v6.toNatClampNeg then none else
  (if (((60 : Int32) * v4) + (fw_g S0 b38 v4.toNatClampNeg)) < 0 ∨ fw_l S0 b33 ≤ (((60 : Int32) * v4) + (fw_g S0 b38 v4.toNatClampNeg)).toNatClampNeg then none else
  (fw_let (fw_wi S0 b33 (((60 : Int32) * v4) + (fw_g S0 b38 v4.toNatClampNeg)).toNatClampNeg (fw_g S0 b40 v6.toNatClampNeg)) (fun S43 =>
  (fw_om (fw_r S43 v0 48) ((fw_om (fw_r S43 v0 46) none (fun b45 =>
  (if v4 < 0 ∨ fw_l S43 b45 ≤ v4.toNatClampNeg then none else
  (fw_om (fw_r S43 v0 40) none (fun b47 =>
  (if v6 < 0 ∨ fw_l S43 b47 ≤ v6.toNatClampNeg then none else
  none))))))) (fun b44 =>
  (fw_om (fw_r S43 v0 46) none (fun b49 =>
  (if v4 < 0 ∨ fw_l S43 b49 ≤ v4.toNatClampNeg then none else
  (fw_om (fw_r S43 v0 40) none (fun b51 =>
  (if v6 < 0 ∨ fw_l S43 b51 ≤ v6.toNatClampNeg then none else
  (if (((60 : Int32) * v4) + (fw_g S43 b49 v4.toNatClampNeg)) < 0 ∨ fw_l S43 b44 ≤ (((60 : Int32) * v4) + (fw_g S43 b49 v4.toNatClampNeg)).toNatClampNeg then none else
  (fw_let (fw_wi S43 b44 (((60 : Int32) * v4) + (fw_g S43 b49 v4.toNatClampNeg)).toNatClampNeg (fw_g S43 b51 v6.toNatClampNeg)) (fun S54 =>
  (fw_om (fw_r S54 v0 46) none (fun b55 =>
  (if v4 < 0 ∨ fw_l S54 b55 ≤ v4.toNatClampNeg then none else
  (if v4 < 0 ∨ fw_l S54 b55 ≤ v4.toNatClampNeg then none else
  (fw_let (fw_wi S54 b55 v4.toNatClampNeg ((fw_g S54 b55 v4.toNatClampNeg) + (1 : Int32))) (fun S58 =>
  F_Mo_remember_l113 k97 n v0 v2 v4 v5 (v6 + (1 : Int32)) S58))))))))))))))))))))))))))))))))))))))))
def F_Mo_remember_l97 : Nat → Nat → Int32 → Int32 → Int32 → fw_S → Option (fw_S)
  | 0, _, _, _, _, _ => none
  | n + 1, v0, v2, v4, v5, S0 =>
    (fw_om (fw_r S0 v0 3) none (fun b25 =>
  (if (v2 + (3 : Int32)) < 0 ∨ fw_l S0 b25 ≤ (v2 + (3 : Int32)).toNatClampNeg then none else
  (if (fw_g S0 b25 (v2 + (3 : Int32)).toNatClampNeg) ≤ v5 then
  (some S0)
  else
  F_Mo_remember_l113 (F_Mo_remember_l97 n) 4096 v0 v2 v4 v5 (0 : Int32) S0))))
def F_Mo_remember_j32 (v0 : Nat) (v1 : Int32) (v2 : Int32) (S0 : fw_S) : Option (fw_S) :=
    (fw_let (fw_g S0 v0 41) (fun x3 =>
  (fw_let (fw_wi S0 v0 41 ((fw_g S0 v0 41) + (1 : Int32))) (fun S4 =>
  (fw_om (fw_r S4 v0 43) none (fun b5 =>
  (if x3 < 0 ∨ fw_l S4 b5 ≤ x3.toNatClampNeg then none else
  (fw_let (fw_wi S4 b5 x3.toNatClampNeg v1) (fun S7 =>
  (fw_om (fw_r S7 v0 44) ((fw_om (fw_r S7 v0 3) none (fun b9 =>
  (if (v2 + (4 : Int32)) < 0 ∨ fw_l S7 b9 ≤ (v2 + (4 : Int32)).toNatClampNeg then none else
  none)))) (fun b8 =>
  (fw_om (fw_r S7 v0 3) none (fun b11 =>
  (if (v2 + (4 : Int32)) < 0 ∨ fw_l S7 b11 ≤ (v2 + (4 : Int32)).toNatClampNeg then none else
  (if x3 < 0 ∨ fw_l S7 b8 ≤ x3.toNatClampNeg then none else
  (fw_let (fw_wi S7 b8 x3.toNatClampNeg (fw_g S7 b11 (v2 + (4 : Int32)).toNatClampNeg)) (fun S14 =>
  (fw_om (fw_r S14 v0 45) ((fw_om (fw_r S14 v0 3) none (fun b16 =>
  (if (v2 + (4 : Int32)) < 0 ∨ fw_l S14 b16 ≤ (v2 + (4 : Int32)).toNatClampNeg then none else
  none)))) (fun b15 =>
  (fw_om (fw_r S14 v0 3) none (fun b18 =>
  (if (v2 + (4 : Int32)) < 0 ∨ fw_l S14 b18 ≤ (v2 + (4 : Int32)).toNatClampNeg then none else
  (if x3 < 0 ∨ fw_l S14 b15 ≤ x3.toNatClampNeg then none else
  (fw_let (fw_wi S14 b15 x3.toNatClampNeg (fw_g S14 b18 (v2 + (4 : Int32)).toNatClampNeg)) (fun S21 =>
  (fw_om (fw_r S21 v0 46) none (fun b22 =>
  (if x3 < 0 ∨ fw_l S21 b22 ≤ x3.toNatClampNeg then none else
  (fw_let (fw_wi S21 b22 x3.toNatClampNeg (0 : Int32)) (fun S24 =>
  F_Mo_remember_l97 4096 v0 v2 x3 (1 : Int32) S24))))))))))))))))))))))))))))))
def F_Mo_remember (a0 : Nat) (p1 : Int32) (p2 : Int32) (S0 : fw_S) : Option (fw_S) :=
  (Option.bind (F_Mo_placeOf a0 p1 S0) (fun x1 =>
  (if x1 < 0 then
  (if ¬ (fw_g S0 a0 41) = (8 : Int32) then
  F_Mo_remember_j32 a0 p1 p2 S0
  else
  (Option.bind (F_Mo_forget a0 (0 : Int32) S0) (fun S59 =>
  F_Mo_remember_j32 a0 p1 p2 S59)))
  else
  (Option.bind (F_Mo_forget a0 x1 S0) (fun S61 =>
  F_Mo_remember_j32 a0 p1 p2 S61)))))
def F_Mo_isServed_j138 (v0 : Nat) (v2 : Int32) (v3 : Int32) (v4 : Int32) (v5 : Int32) (s0 : Int32) (S0 : fw_S) : Option (Int32 × fw_S) :=
    (if s0 = 0 then
  (fw_let (fw_wi S0 v0 49 (0 : Int32)) (fun S6 =>
  (Option.bind (F_Mo_put v0 v4 S6) (fun S7 =>
  (fw_b2 (F_Mo_send v0 (4 : Int32) (4 : Int32) v2 S7) (fun x10 S9 =>
  (some ((1 : Int32), S9))))))))
  else
  (fw_om (fw_r S0 v0 45) none (fun b12 =>
  (if v5 < 0 ∨ fw_l S0 b12 ≤ v5.toNatClampNeg then none else
  (fw_let (fw_wi S0 b12 v5.toNatClampNeg v4) (fun S14 =>
  (fw_om (fw_r S14 v0 3) none (fun b15 =>
  (if (v3 + (5 : Int32)) < 0 ∨ fw_l S14 b15 ≤ (v3 + (5 : Int32)).toNatClampNeg then none else
  (Option.bind (F_Mo_answer v0 v5 v2 v4 (fw_g S14 b15 (v3 + (5 : Int32)).toNatClampNeg) S14) (fun S17 =>
  (some ((1 : Int32), S17)))))))))))))
def F_Mo_isServed_j137 (v0 : Nat) (v2 : Int32) (v3 : Int32) (v4 : Int32) (v5 : Int32) (S0 : fw_S) : Option (Int32 × fw_S) :=
    F_Mo_isServed_j138 v0 v2 v3 v4 v5 (0 : Int32) S0
def F_Mo_isServed_j133 (v0 : Nat) (v2 : Int32) (v3 : Int32) (v4 : Int32) (v5 : Int32) (S0 : fw_S) : Option (Int32 × fw_S) :=
    F_Mo_isServed_j138 v0 v2 v3 v4 v5 (1 : Int32) S0
def F_Mo_isServed_j52 (v0 : Nat) (v2 : Int32) (v3 : Int32) (v4 : Int32) (S0 : fw_S) : Option (Int32 × fw_S) :=
    (Option.bind (F_Mo_remember v0 v2 v3 S0) (fun S27 =>
  (Option.bind (F_Mo_placeOf v0 v2 S27) (fun x29 =>
  (Option.bind (F_Mo_answer v0 x29 v2 v4 (0 : Int32) S27) (fun S31 =>
  (some ((1 : Int32), S31))))))))
def F_Mo_isServed (a0 : Nat) (p1 : Int32) (p2 : Int32) (p3 : Int32) (S0 : fw_S) : Option (Int32 × fw_S) :=
  (fw_om (fw_r S0 a0 3) none (fun b1 =>
  (if (p3 + (4 : Int32)) < 0 ∨ fw_l S0 b1 ≤ (p3 + (4 : Int32)).toNatClampNeg then none else
  (fw_let (fw_g S0 b1 (p3 + (4 : Int32)).toNatClampNeg) (fun x3 =>
  (Option.bind (F_Mo_placeOf a0 p2 S0) (fun x4 =>
  (if ¬ p1 = (1 : Int32) then
  (if p1 = (3 : Int32) then
  (if x4 < 0 then
  F_Mo_isServed_j137 a0 p2 p3 x3 x4 S0
  else
  (fw_om (fw_r S0 a0 3) none (fun b19 =>
  (if (p3 + (5 : Int32)) < 0 ∨ fw_l S0 b19 ≤ (p3 + (5 : Int32)).toNatClampNeg then none else
  (fw_om (fw_r S0 a0 46) none (fun b21 =>
  (if x4 < 0 ∨ fw_l S0 b21 ≤ x4.toNatClampNeg then none else
  (if (fw_g S0 b21 x4.toNatClampNeg) < (fw_g S0 b19 (p3 + (5 : Int32)).toNatClampNeg) then
  F_Mo_isServed_j137 a0 p2 p3 x3 x4 S0
  else
  (fw_om (fw_r S0 a0 45) none (fun b23 =>
  (if x4 < 0 ∨ fw_l S0 b23 ≤ x4.toNatClampNeg then none else
  (if x3 = (fw_g S0 b23 x4.toNatClampNeg) then
  F_Mo_isServed_j133 a0 p2 p3 x3 x4 S0
  else
  (fw_om (fw_r S0 a0 45) none (fun b25 =>
  (if x4 < 0 ∨ fw_l S0 b25 ≤ x4.toNatClampNeg then none else
  (if ¬ x3 = (((fw_g S0 b25 x4.toNatClampNeg) + (1 : Int32)) &&& (255 : Int32)) then
  F_Mo_isServed_j137 a0 p2 p3 x3 x4 S0
  else
  F_Mo_isServed_j133 a0 p2 p3 x3 x4 S0))))))))))))))))
  else
  (some ((0 : Int32), S0)))
  else
  (if x4 < 0 then
  F_Mo_isServed_j52 a0 p2 p3 x3 S0
  else
  (fw_om (fw_r S0 a0 44) none (fun b33 =>
  (if x4 < 0 ∨ fw_l S0 b33 ≤ x4.toNatClampNeg then none else
  (if ¬ (fw_g S0 b33 x4.toNatClampNeg) = x3 then
  F_Mo_isServed_j52 a0 p2 p3 x3 S0
  else
  (fw_let (fw_wi S0 a0 42 ((fw_g S0 a0 42) + (1 : Int32))) (fun S35 =>
  (Option.bind (F_Mo_placeOf a0 p2 S35) (fun x36 =>
  (Option.bind (F_Mo_answer a0 x36 p2 x3 (0 : Int32) S35) (fun S38 =>
  (some ((1 : Int32), S38)))))))))))))))))))))
def F_Mo_end (a0 : Nat) (p1 : Int32) (S0 : fw_S) : Option (fw_S) :=
  (fw_om (fw_r S0 a0 4) none (fun b1 =>
  (if p1 < 0 ∨ fw_l S0 b1 ≤ p1.toNatClampNeg then none else
  (fw_let (fw_wi S0 b1 p1.toNatClampNeg (0 : Int32)) (fun S3 =>
  (if (4 : Int32) ≤ p1 then
  (some S3)
  else
  (fw_om (fw_r S3 a0 0) none (fun b4 =>
  (if p1 < 0 ∨ fw_l S3 b4 ≤ p1.toNatClampNeg then none else
  (fw_let (fw_wi S3 b4 p1.toNatClampNeg (0 : Int32)) (fun S6 =>
  (fw_om (fw_r S6 a0 2) none (fun b7 =>
  (if p1 < 0 ∨ fw_l S6 b7 ≤ p1.toNatClampNeg then none else
  (fw_let (fw_wi S6 b7 p1.toNatClampNeg (0 : Int32)) (fun S9 =>
  (some S9)))))))))))))))))
def F_Mo_isLength (p0 : Int32) (p1 : Int32) (S0 : fw_S) : Option (Int32) :=
  (if ¬ p0 = (1 : Int32) then
  (if ¬ p0 = (2 : Int32) then
  (if ¬ p0 = (3 : Int32) then
  (if ¬ p1 = (1 : Int32) then
  (some (0 : Int32))
  else
  (some (1 : Int32)))
  else
  (if ¬ p1 = (2 : Int32) then
  (some (0 : Int32))
  else
  (some (1 : Int32))))
  else
  (Option.bind (F_Mo_isIn p1 (2 : Int32) (18 : Int32) S0) (fun x1 =>
  (if x1 = 0 then
  (some (0 : Int32))
  else
  (if ¬ (p1 - p1 / (2 : Int32) * (2 : Int32)) = 0 then
  (some (0 : Int32))
  else
  (some (1 : Int32)))))))
  else
  (Option.bind (F_Mo_isIn p1 (2 : Int32) (9 : Int32) S0) (fun x3 =>
  (if x3 = 0 ∨ x3 = 1 then some x3 else none))))
def F_Mo_fits_j127 (S0 : fw_S) (v3 : Int32) (v4 : Int32) : Option (Int32) :=
    (if ¬ v4 = v3 then
  (some (0 : Int32))
  else
  (some (1 : Int32)))
def F_Mo_fits_l101 (S0 : fw_S) : Nat → Nat → Int32 → Int32 → Int32 → Int32 → Int32 → Option (Int32)
  | 0, _, _, _, _, _, _ => none
  | n + 1, v0, v1, v2, v3, v4, v5 =>
    (if v2 ≤ v5 then
  F_Mo_fits_j127 S0 v3 v4
  else
  (fw_om (fw_r S0 v0 3) none (fun b3 =>
  (if (v1 + v5) < 0 ∨ fw_l S0 b3 ≤ (v1 + v5).toNatClampNeg then none else
  (fw_let (v4 ^^^ (fw_g S0 b3 (v1 + v5).toNatClampNeg)) (fun x5 =>
  F_Mo_fits_l101 S0 n v0 v1 v2 v3 x5 (v5 + (1 : Int32))))))))
def F_Mo_fits_j74 (S0 : fw_S) (v0 : Nat) (v1 : Int32) (v2 : Int32) (v3 : Int32) : Option (Int32) :=
    (if v2 < (4 : Int32) then
  (some (1 : Int32))
  else
  (fw_om (fw_r S0 v0 3) none (fun b1 =>
  (if (v1 + (3 : Int32)) < 0 ∨ fw_l S0 b1 ≤ (v1 + (3 : Int32)).toNatClampNeg then none else
  (if ((fw_g S0 b1 (v1 + (3 : Int32)).toNatClampNeg) + (4 : Int32)) ≤ v2 then
  F_Mo_fits_l101 S0 4096 v0 v1 v2 v3 (0 : Int32) (1 : Int32)
  else
  (some (1 : Int32)))))))
def F_Mo_fits (a0 : Nat) (p1 : Int32) (p2 : Int32) (p3 : Int32) (S0 : fw_S) : Option (Int32) :=
  (if ¬ p2 = 0 then
  (if ¬ p2 = (1 : Int32) then
  (if ¬ p2 = (3 : Int32) then
  (if ¬ p2 = (5 : Int32) then
  F_Mo_fits_j74 S0 a0 p1 p2 p3
  else
  (fw_om (fw_r S0 a0 3) none (fun b6 =>
  (if (p1 + (1 : Int32)) < 0 ∨ fw_l S0 b6 ≤ (p1 + (1 : Int32)).toNatClampNeg then none else
  (if ¬ (fw_g S0 b6 (p1 + (1 : Int32)).toNatClampNeg) = (2 : Int32) then
  F_Mo_fits_j74 S0 a0 p1 p2 p3
  else
  (if (2 : Int32) ≤ p3 then
  (some (0 : Int32))
  else
  (some (1 : Int32))))))))
  else
  (fw_om (fw_r S0 a0 3) none (fun b8 =>
  (if (p1 + (1 : Int32)) < 0 ∨ fw_l S0 b8 ≤ (p1 + (1 : Int32)).toNatClampNeg then none else
  (Option.bind (F_Mo_isLength (fw_g S0 b8 (p1 + (1 : Int32)).toNatClampNeg) p3 S0) (fun x10 =>
  (if x10 = 0 ∨ x10 = 1 then some x10 else none)))))))
  else
  (Option.bind (F_Mo_isIn p3 (1 : Int32) (4 : Int32) S0) (fun x13 =>
  (if x13 = 0 ∨ x13 = 1 then some x13 else none))))
  else
  (if ¬ p3 = (126 : Int32) then
  (some (0 : Int32))
  else
  (some (1 : Int32))))
def F_Mo_come_j137 (v0 : Nat) (v5 : Int32) (s0 : Int32) (S0 : fw_S) : Option (Int32 × fw_S) :=
    (if s0 = 0 then
  (fw_let (fw_wi S0 v0 9 (fw_g S0 v0 9)) (fun S28 =>
  (if s0 = 0 then
  (some (v5, S28))
  else
  (some ((v5 + (10 : Int32)), S28)))))
  else
  (fw_let (fw_wi S0 v0 9 ((fw_g S0 v0 9) + (1 : Int32))) (fun S29 =>
  (if s0 = 0 then
  (some (v5, S29))
  else
  (some ((v5 + (10 : Int32)), S29))))))
def F_Mo_come (a0 : Nat) (p1 : Int32) (p2 : Int32) (S0 : fw_S) : Option (Int32 × fw_S) :=
  (fw_let ((30 : Int32) * p1) (fun x1 =>
  (fw_om (fw_r S0 a0 4) none (fun b2 =>
  (if p1 < 0 ∨ fw_l S0 b2 ≤ p1.toNatClampNeg then none else
  (fw_let (fw_g S0 b2 p1.toNatClampNeg) (fun x4 =>
  (Option.bind (F_Mo_fits a0 x1 x4 p2 S0) (fun x5 =>
  (if ¬ x5 = 0 then
  (fw_om (fw_r S0 a0 3) none (fun b7 =>
  (if (x1 + x4) < 0 ∨ fw_l S0 b7 ≤ (x1 + x4).toNatClampNeg then none else
  (fw_let (fw_wi S0 b7 (x1 + x4).toNatClampNeg p2) (fun S9 =>
  (fw_om (fw_r S9 a0 4) none (fun b10 =>
  (if p1 < 0 ∨ fw_l S9 b10 ≤ p1.toNatClampNeg then none else
  (if p1 < 0 ∨ fw_l S9 b10 ≤ p1.toNatClampNeg then none else
  (fw_let (fw_wi S9 b10 p1.toNatClampNeg ((fw_g S9 b10 p1.toNatClampNeg) + (1 : Int32))) (fun S13 =>
  (if x4 < (4 : Int32) then
  (some ((0 : Int32), S13))
  else
  (fw_om (fw_r S13 a0 3) none (fun b14 =>
  (if (x1 + (3 : Int32)) < 0 ∨ fw_l S13 b14 ≤ (x1 + (3 : Int32)).toNatClampNeg then none else
  (if ((fw_g S13 b14 (x1 + (3 : Int32)).toNatClampNeg) + (4 : Int32)) ≤ x4 then
  (fw_om (fw_r S13 a0 4) none (fun b16 =>
  (if p1 < 0 ∨ fw_l S13 b16 ≤ p1.toNatClampNeg then none else
  (fw_let (fw_wi S13 b16 p1.toNatClampNeg (0 : Int32)) (fun S18 =>
  (fw_om (fw_r S18 a0 3) none (fun b19 =>
  (if (x1 + (1 : Int32)) < 0 ∨ fw_l S18 b19 ≤ (x1 + (1 : Int32)).toNatClampNeg then none else
  (fw_let (fw_g S18 b19 (x1 + (1 : Int32)).toNatClampNeg) (fun x21 =>
  (fw_om (fw_r S18 a0 3) none (fun b22 =>
  (if (x1 + (2 : Int32)) < 0 ∨ fw_l S18 b22 ≤ (x1 + (2 : Int32)).toNatClampNeg then none else
  (fw_let (fw_g S18 b22 (x1 + (2 : Int32)).toNatClampNeg) (fun x24 =>
  (if ¬ p1 = (4 : Int32) then
  (fw_b2 (F_Mo_isDropped a0 p1 x21 x24 x1 S18) (fun x26 S25 =>
  F_Mo_come_j137 a0 x21 x26 S25))
  else
  (fw_b2 (F_Mo_isServed a0 x21 x24 x1 S18) (fun x31 S30 =>
  (if ¬ x31 = 0 then
  F_Mo_come_j137 a0 x21 (0 : Int32) S30
  else
  F_Mo_come_j137 a0 x21 (1 : Int32) S30)))))))))))))))))))
  else
  (some ((0 : Int32), S13))))))))))))))))))
  else
  (Option.bind (F_Mo_end a0 p1 S0) (fun S33 =>
  (some ((-10 : Int32), S33))))))))))))))
def F_Mo_octet (a0 : Nat) (p1 : Int32) (p2 : Int32) (S0 : fw_S) : Option (Int32 × fw_S) :=
  (Option.bind (F_Mo_isIn p1 (0 : Int32) (4 : Int32) S0) (fun x1 =>
  (if ¬ x1 = 0 then
  (fw_om (fw_r S0 a0 0) none (fun b3 =>
  (if p1 < 0 ∨ fw_l S0 b3 ≤ p1.toNatClampNeg then none else
  (if ¬ (fw_g S0 b3 p1.toNatClampNeg) = 0 then
  (fw_b2 (F_Mo_come a0 p1 (p2 &&& (255 : Int32)) S0) (fun x6 S5 =>
  (some (x6, S5))))
  else
  (some ((-2 : Int32), S0))))))
  else
  (some ((-1 : Int32), S0)))))
def F_Mo_takeOut_l23 : Nat → Nat → Int32 → Int32 → Int32 → fw_S → Option (Int32 × fw_S)
  | 0, _, _, _, _, _ => none
  | n + 1, v0, v1, v2, v3, S0 =>
    (fw_om (fw_r S0 v0 2) none (fun b8 =>
  (if v1 < 0 ∨ fw_l S0 b8 ≤ v1.toNatClampNeg then none else
  (if (fw_g S0 b8 v1.toNatClampNeg) ≤ v3 then
  (some (v2, S0))
  else
  (fw_om (fw_r S0 v0 1) ((fw_om (fw_r S0 v0 1) none (fun b11 =>
  (if ((((300 : Int32) * v1) + v3) + (1 : Int32)) < 0 ∨ fw_l S0 b11 ≤ ((((300 : Int32) * v1) + v3) + (1 : Int32)).toNatClampNeg then none else
  none)))) (fun b10 =>
  (fw_om (fw_r S0 v0 1) none (fun b13 =>
  (if ((((300 : Int32) * v1) + v3) + (1 : Int32)) < 0 ∨ fw_l S0 b13 ≤ ((((300 : Int32) * v1) + v3) + (1 : Int32)).toNatClampNeg then none else
  (if (((300 : Int32) * v1) + v3) < 0 ∨ fw_l S0 b10 ≤ (((300 : Int32) * v1) + v3).toNatClampNeg then none else
  (fw_let (fw_wi S0 b10 (((300 : Int32) * v1) + v3).toNatClampNeg (fw_g S0 b13 ((((300 : Int32) * v1) + v3) + (1 : Int32)).toNatClampNeg)) (fun S16 =>
  F_Mo_takeOut_l23 n v0 v1 v2 (v3 + (1 : Int32)) S16))))))))))))
def F_Mo_takeOut (a0 : Nat) (p1 : Int32) (S0 : fw_S) : Option (Int32 × fw_S) :=
  (fw_om (fw_r S0 a0 1) none (fun b1 =>
  (if ((300 : Int32) * p1) < 0 ∨ fw_l S0 b1 ≤ ((300 : Int32) * p1).toNatClampNeg then none else
  (fw_let (fw_g S0 b1 ((300 : Int32) * p1).toNatClampNeg) (fun x3 =>
  (fw_om (fw_r S0 a0 2) none (fun b4 =>
  (if p1 < 0 ∨ fw_l S0 b4 ≤ p1.toNatClampNeg then none else
  (if p1 < 0 ∨ fw_l S0 b4 ≤ p1.toNatClampNeg then none else
  (fw_let (fw_wi S0 b4 p1.toNatClampNeg ((fw_g S0 b4 p1.toNatClampNeg) - (1 : Int32))) (fun S7 =>
  F_Mo_takeOut_l23 4096 a0 p1 x3 (0 : Int32) S7)))))))))))
def F_Mo_out (a0 : Nat) (p1 : Int32) (S0 : fw_S) : Option (Int32 × fw_S) :=
  (Option.bind (F_Mo_isIn p1 (0 : Int32) (4 : Int32) S0) (fun x1 =>
  (if ¬ x1 = 0 then
  (fw_om (fw_r S0 a0 2) none (fun b3 =>
  (if p1 < 0 ∨ fw_l S0 b3 ≤ p1.toNatClampNeg then none else
  (if ¬ (fw_g S0 b3 p1.toNatClampNeg) = 0 then
  (fw_b2 (F_Mo_takeOut a0 p1 S0) (fun x6 S5 =>
  (some (x6, S5))))
  else
  (some ((-2 : Int32), S0))))))
  else
  (some ((-1 : Int32), S0)))))
def F_Mo_loop_j97 (v0 : Nat) (v3 : Int32) (S0 : fw_S) : Option (Int32 × fw_S) :=
    (fw_om (fw_r S0 v0 2) none (fun b7 =>
  (if (4 : Int32) < 0 ∨ fw_l S0 b7 ≤ (4 : Int32).toNatClampNeg then none else
  (fw_let (fw_wi S0 b7 (4 : Int32).toNatClampNeg (0 : Int32)) (fun S9 =>
  (some (v3, S9)))))))
def F_Mo_loop_l62 : Nat → Nat → Int32 → Int32 → fw_S → Option (Int32 × fw_S)
  | 0, _, _, _, _ => none
  | n + 1, v0, v1, v3, S0 =>
    (fw_om (fw_r S0 v0 2) none (fun b5 =>
  (if (4 : Int32) < 0 ∨ fw_l S0 b5 ≤ (4 : Int32).toNatClampNeg then none else
  (if (fw_g S0 b5 (4 : Int32).toNatClampNeg) ≤ 0 then
  F_Mo_loop_j97 v0 v3 S0
  else
  (fw_om (fw_r S0 v0 0) none (fun b10 =>
  (if v1 < 0 ∨ fw_l S0 b10 ≤ v1.toNatClampNeg then none else
  (if (fw_g S0 b10 v1.toNatClampNeg) = 0 then
  F_Mo_loop_j97 v0 v3 S0
  else
  (fw_b2 (F_Mo_takeOut v0 (4 : Int32) S0) (fun x13 S12 =>
  (fw_b2 (F_Mo_come v0 v1 x13 S12) (fun x16 S15 =>
  F_Mo_loop_l62 n v0 v1 (v3 + (1 : Int32)) S15))))))))))))
def F_Mo_loop_l29 : Nat → Nat → Int32 → Int32 → Int32 → fw_S → Option (Int32 × fw_S)
  | 0, _, _, _, _, _ => none
  | n + 1, v0, v1, v2, v3, S0 =>
    (if v2 ≤ v3 then
  F_Mo_loop_l62 4096 v0 v1 (0 : Int32) S0
  else
  (fw_om (fw_r S0 v0 2) none (fun b18 =>
  (if v1 < 0 ∨ fw_l S0 b18 ≤ v1.toNatClampNeg then none else
  (if (fw_g S0 b18 v1.toNatClampNeg) ≤ 0 then
  F_Mo_loop_l62 4096 v0 v1 (0 : Int32) S0
  else
  (fw_b2 (F_Mo_takeOut v0 v1 S0) (fun x21 S20 =>
  (fw_b2 (F_Mo_come v0 (4 : Int32) x21 S20) (fun x24 S23 =>
  F_Mo_loop_l29 n v0 v1 v2 (v3 + (1 : Int32)) S23)))))))))
def F_Mo_loop (a0 : Nat) (p1 : Int32) (p2 : Int32) (S0 : fw_S) : Option (Int32 × fw_S) :=
  (Option.bind (F_Mo_isIn p1 (0 : Int32) (3 : Int32) S0) (fun x1 =>
  (if x1 = 0 then
  (some ((-1 : Int32), S0))
  else
  (if 0 ≤ p2 then
  (fw_om (fw_r S0 a0 0) none (fun b3 =>
  (if p1 < 0 ∨ fw_l S0 b3 ≤ p1.toNatClampNeg then none else
  (if ¬ (fw_g S0 b3 p1.toNatClampNeg) = 0 then
  F_Mo_loop_l29 4096 a0 p1 p2 (0 : Int32) S0
  else
  (some ((-2 : Int32), S0))))))
  else
  (some ((-1 : Int32), S0))))))
def F_Mo_up_l34 : Nat → Nat → Int32 → Int32 → Int32 → fw_S → Option (Int32 × fw_S)
  | 0, _, _, _, _, _ => none
  | n + 1, v0, v1, v2, v3, S0 =>
    (if (fw_g S0 v0 14) ≤ v3 then
  (some (v2, S0))
  else
  (fw_om (fw_r S0 v0 17) none (fun b8 =>
  (if v3 < 0 ∨ fw_l S0 b8 ≤ v3.toNatClampNeg then none else
  (if ¬ (fw_g S0 b8 v3.toNatClampNeg) = 0 then
  F_Mo_up_l34 n v0 v1 v2 (v3 + (1 : Int32)) S0
  else
  (fw_om (fw_r S0 v0 15) none (fun b10 =>
  (if v3 < 0 ∨ fw_l S0 b10 ≤ v3.toNatClampNeg then none else
  (if ¬ (fw_g S0 b10 v3.toNatClampNeg) = v1 then
  F_Mo_up_l34 n v0 v1 v2 (v3 + (1 : Int32)) S0
  else
  (fw_om (fw_r S0 v0 31) none (fun b12 =>
  (if v3 < 0 ∨ fw_l S0 b12 ≤ v3.toNatClampNeg then none else
  (fw_let (fw_wi S0 b12 v3.toNatClampNeg (0 : Int32)) (fun S14 =>
  (fw_b2 (F_Mo_sendLast v0 v3 S14) (fun x16 S15 =>
  (if x16 = 0 then
  F_Mo_up_l34 n v0 v1 v2 (v3 + (1 : Int32)) S15
  else
  (fw_let (v2 + (1 : Int32)) (fun x18 =>
  F_Mo_up_l34 n v0 v1 x18 (v3 + (1 : Int32)) S15)))))))))))))))))))
def F_Mo_up (a0 : Nat) (p1 : Int32) (S0 : fw_S) : Option (Int32 × fw_S) :=
  (Option.bind (F_Mo_isIn p1 (0 : Int32) (3 : Int32) S0) (fun x1 =>
  (if ¬ x1 = 0 then
  (fw_om (fw_r S0 a0 0) none (fun b3 =>
  (if p1 < 0 ∨ fw_l S0 b3 ≤ p1.toNatClampNeg then none else
  (if (fw_g S0 b3 p1.toNatClampNeg) = 0 then
  (fw_om (fw_r S0 a0 0) none (fun b5 =>
  (if p1 < 0 ∨ fw_l S0 b5 ≤ p1.toNatClampNeg then none else
  (fw_let (fw_wi S0 b5 p1.toNatClampNeg (1 : Int32)) (fun S7 =>
  F_Mo_up_l34 4096 a0 p1 (0 : Int32) (0 : Int32) S7)))))
  else
  (some ((-2 : Int32), S0))))))
  else
  (some ((-1 : Int32), S0)))))
def F_Mo_down (a0 : Nat) (p1 : Int32) (S0 : fw_S) : Option (Int32 × fw_S) :=
  (Option.bind (F_Mo_isIn p1 (0 : Int32) (3 : Int32) S0) (fun x1 =>
  (if ¬ x1 = 0 then
  (fw_om (fw_r S0 a0 0) none (fun b3 =>
  (if p1 < 0 ∨ fw_l S0 b3 ≤ p1.toNatClampNeg then none else
  (if ¬ (fw_g S0 b3 p1.toNatClampNeg) = 0 then
  (Option.bind (F_Mo_end a0 p1 S0) (fun S5 =>
  (some ((1 : Int32), S5))))
  else
  (some ((-2 : Int32), S0))))))
  else
  (some ((-1 : Int32), S0)))))
def F_Mo_tick_l35 (k17 : Nat → Int32 → Int32 → Int32 → fw_S → Option (Int32 × fw_S)) : Nat → Nat → Int32 → Int32 → Int32 → Int32 → fw_S → Option (Int32 × fw_S)
  | 0, _, _, _, _, _, _ => none
  | n + 1, v0, v1, v2, v3, v4, S0 =>
    (if (fw_g S0 v0 14) ≤ v4 then
  k17 v0 v1 v2 (v3 + (1 : Int32)) S0
  else
  (fw_om (fw_r S0 v0 17) none (fun b4 =>
  (if v4 < 0 ∨ fw_l S0 b4 ≤ v4.toNatClampNeg then none else
  (if ¬ (fw_g S0 b4 v4.toNatClampNeg) = 0 then
  F_Mo_tick_l35 k17 n v0 v1 v2 v3 (v4 + (1 : Int32)) S0
  else
  (fw_om (fw_r S0 v0 32) none (fun b6 =>
  (if v4 < 0 ∨ fw_l S0 b6 ≤ v4.toNatClampNeg then none else
  (if ((fw_g S0 v0 8) - (fw_g S0 b6 v4.toNatClampNeg)) < (fw_g S0 v0 6) then
  F_Mo_tick_l35 k17 n v0 v1 v2 v3 (v4 + (1 : Int32)) S0
  else
  (fw_om (fw_r S0 v0 31) none (fun b8 =>
  (if v4 < 0 ∨ fw_l S0 b8 ≤ v4.toNatClampNeg then none else
  (if (fw_g S0 b8 v4.toNatClampNeg) < (fw_g S0 v0 7) then
  (fw_om (fw_r S0 v0 31) none (fun b10 =>
  (if v4 < 0 ∨ fw_l S0 b10 ≤ v4.toNatClampNeg then none else
  (if v4 < 0 ∨ fw_l S0 b10 ≤ v4.toNatClampNeg then none else
  (fw_let (fw_wi S0 b10 v4.toNatClampNeg ((fw_g S0 b10 v4.toNatClampNeg) + (1 : Int32))) (fun S13 =>
  (fw_b2 (F_Mo_sendLast v0 v4 S13) (fun x15 S14 =>
  F_Mo_tick_l35 k17 n v0 v1 v2 v3 (v4 + (1 : Int32)) S14))))))))
  else
  (Option.bind (F_Mo_fail v0 v4 (1 : Int32) S0) (fun S17 =>
  F_Mo_tick_l35 k17 n v0 v1 (v2 + (1 : Int32)) v3 (v4 + (1 : Int32)) S17)))))))))))))))
def F_Mo_tick_l17 : Nat → Nat → Int32 → Int32 → Int32 → fw_S → Option (Int32 × fw_S)
  | 0, _, _, _, _, _ => none
  | n + 1, v0, v1, v2, v3, S0 =>
    (if v1 ≤ v3 then
  (some (v2, S0))
  else
  (fw_let (fw_wi S0 v0 8 ((fw_g S0 v0 8) + (1 : Int32))) (fun S3 =>
  F_Mo_tick_l35 (F_Mo_tick_l17 n) 4096 v0 v1 v2 v3 (0 : Int32) S3)))
def F_Mo_tick (a0 : Nat) (p1 : Int32) (S0 : fw_S) : Option (Int32 × fw_S) :=
  (Option.bind (F_Mo_isIn p1 (0 : Int32) (1000 : Int32) S0) (fun x1 =>
  (if ¬ x1 = 0 then
  F_Mo_tick_l17 4096 a0 p1 (0 : Int32) (0 : Int32) S0
  else
  (some ((-1 : Int32), S0)))))
def F_Mo_joinedOnes_j102 (S0 : fw_S) (v0 : Nat) (v1 : Int32) (v3 : Int32) (v5 : Int32) (v6 : Int32) : Option (Int32) :=
    (if ¬ v3 = 0 then
  (fw_om (fw_r S0 v0 28) none (fun b11 =>
  (if (((60 : Int32) * v1) + v6) < 0 ∨ fw_l S0 b11 ≤ (((60 : Int32) * v1) + v6).toNatClampNeg then none else
  (some (fw_g S0 b11 (((60 : Int32) * v1) + v6).toNatClampNeg)))))
  else
  (fw_om (fw_r S0 v0 21) none (fun b13 =>
  (if (((20 : Int32) * v1) + v5) < 0 ∨ fw_l S0 b13 ≤ (((20 : Int32) * v1) + v5).toNatClampNeg then none else
  (some (fw_g S0 b13 (((20 : Int32) * v1) + v5).toNatClampNeg))))))
def F_Mo_joinedOnes_l58 (S0 : fw_S) (k6 : Nat → Int32 → Int32 → Int32 → Int32 → Int32 → Option (Int32)) : Nat → Nat → Int32 → Int32 → Int32 → Int32 → Int32 → Int32 → Option (Int32)
  | 0, _, _, _, _, _, _, _ => none
  | n + 1, v0, v1, v2, v3, v4, v5, v6 =>
    (fw_om (fw_r S0 v0 26) none (fun b5 =>
  (if v1 < 0 ∨ fw_l S0 b5 ≤ v1.toNatClampNeg then none else
  (if (fw_g S0 b5 v1.toNatClampNeg) ≤ v6 then
  k6 v0 v1 v2 v3 v4 (v5 + (1 : Int32))
  else
  (fw_om (fw_r S0 v0 27) none (fun b7 =>
  (if (((60 : Int32) * v1) + v6) < 0 ∨ fw_l S0 b7 ≤ (((60 : Int32) * v1) + v6).toNatClampNeg then none else
  (fw_om (fw_r S0 v0 20) none (fun b9 =>
  (if (((20 : Int32) * v1) + v5) < 0 ∨ fw_l S0 b9 ≤ (((20 : Int32) * v1) + v5).toNatClampNeg then none else
  (if ¬ (fw_g S0 b7 (((60 : Int32) * v1) + v6).toNatClampNeg) = (fw_g S0 b9 (((20 : Int32) * v1) + v5).toNatClampNeg) then
  F_Mo_joinedOnes_l58 S0 k6 n v0 v1 v2 v3 v4 v5 (v6 + (1 : Int32))
  else
  (if ¬ v4 = v2 then
  F_Mo_joinedOnes_l58 S0 k6 n v0 v1 v2 v3 (v4 + (1 : Int32)) v5 (v6 + (1 : Int32))
  else
  F_Mo_joinedOnes_j102 S0 v0 v1 v3 v5 v6))))))))))))
def F_Mo_joinedOnes_j31 (S0 : fw_S) (v0 : Nat) (v1 : Int32) (v3 : Int32) (v5 : Int32) : Option (Int32) :=
    (if ¬ v3 = 0 then
  (some (-1 : Int32))
  else
  (fw_om (fw_r S0 v0 21) none (fun b15 =>
  (if (((20 : Int32) * v1) + v5) < 0 ∨ fw_l S0 b15 ≤ (((20 : Int32) * v1) + v5).toNatClampNeg then none else
  (some (fw_g S0 b15 (((20 : Int32) * v1) + v5).toNatClampNeg))))))
def F_Mo_joinedOnes_l6 (S0 : fw_S) : Nat → Nat → Int32 → Int32 → Int32 → Int32 → Int32 → Option (Int32)
  | 0, _, _, _, _, _, _ => none
  | n + 1, v0, v1, v2, v3, v4, v5 =>
    (fw_om (fw_r S0 v0 19) none (fun b1 =>
  (if v1 < 0 ∨ fw_l S0 b1 ≤ v1.toNatClampNeg then none else
  (if (fw_g S0 b1 v1.toNatClampNeg) ≤ v5 then
  (some v4)
  else
  (Option.bind (F_Mo_isFailedSilently v0 v1 S0) (fun x3 =>
  (if x3 = 0 then
  F_Mo_joinedOnes_l58 S0 (F_Mo_joinedOnes_l6 S0 n) 4096 v0 v1 v2 v3 v4 v5 (0 : Int32)
  else
  (if ¬ v4 = v2 then
  F_Mo_joinedOnes_l58 S0 (F_Mo_joinedOnes_l6 S0 n) 4096 v0 v1 v2 v3 (v4 + (1 : Int32)) v5 (0 : Int32)
  else
  F_Mo_joinedOnes_j31 S0 v0 v1 v3 v5))))))))
def F_Mo_joinedOnes (a0 : Nat) (p1 : Int32) (p2 : Int32) (p3 : Int32) (S0 : fw_S) : Option (Int32) :=
  F_Mo_joinedOnes_l6 S0 4096 a0 p1 p2 p3 (0 : Int32) (0 : Int32)
def F_Mo_told (a0 : Nat) (p1 : Int32) (p2 : Int32) (S0 : fw_S) : Option (Int32) :=
  (Option.bind (F_Mo_isIn p1 (0 : Int32) ((fw_g S0 a0 14) - (1 : Int32)) S0) (fun x1 =>
  (if ¬ x1 = 0 then
  (if p2 = (0 : Int32) then
  (fw_om (fw_r S0 a0 15) none (fun b3 =>
  (if p1 < 0 ∨ fw_l S0 b3 ≤ p1.toNatClampNeg then none else
  (some (fw_g S0 b3 p1.toNatClampNeg)))))
  else
  (if p2 = (1 : Int32) then
  (fw_om (fw_r S0 a0 17) none (fun b5 =>
  (if p1 < 0 ∨ fw_l S0 b5 ≤ p1.toNatClampNeg then none else
  (some (fw_g S0 b5 p1.toNatClampNeg)))))
  else
  (if p2 = (2 : Int32) then
  (fw_om (fw_r S0 a0 18) none (fun b7 =>
  (if p1 < 0 ∨ fw_l S0 b7 ≤ p1.toNatClampNeg then none else
  (some (fw_g S0 b7 p1.toNatClampNeg)))))
  else
  (if p2 = (3 : Int32) then
  (fw_om (fw_r S0 a0 26) none (fun b9 =>
  (if p1 < 0 ∨ fw_l S0 b9 ≤ p1.toNatClampNeg then none else
  (some (fw_g S0 b9 p1.toNatClampNeg)))))
  else
  (if p2 = (4 : Int32) then
  (fw_om (fw_r S0 a0 17) none (fun b11 =>
  (if p1 < 0 ∨ fw_l S0 b11 ≤ p1.toNatClampNeg then none else
  (if ¬ (fw_g S0 b11 p1.toNatClampNeg) = (1 : Int32) then
  (some (0 : Int32))
  else
  (Option.bind (F_Mo_joinedOnes a0 p1 (-1 : Int32) (0 : Int32) S0) (fun x13 =>
  (some x13)))))))
  else
  (if p2 = (5 : Int32) then
  (fw_om (fw_r S0 a0 30) none (fun b15 =>
  (if p1 < 0 ∨ fw_l S0 b15 ≤ p1.toNatClampNeg then none else
  (some (fw_g S0 b15 p1.toNatClampNeg)))))
  else
  (if p2 = (6 : Int32) then
  (fw_om (fw_r S0 a0 31) none (fun b17 =>
  (if p1 < 0 ∨ fw_l S0 b17 ≤ p1.toNatClampNeg then none else
  (some (fw_g S0 b17 p1.toNatClampNeg)))))
  else
  (if p2 = (7 : Int32) then
  (fw_om (fw_r S0 a0 22) none (fun b19 =>
  (if p1 < 0 ∨ fw_l S0 b19 ≤ p1.toNatClampNeg then none else
  (some (fw_g S0 b19 p1.toNatClampNeg)))))
  else
  (some (-1 : Int32))))))))))
  else
  (some (-1 : Int32)))))
def F_Mo_row (a0 : Nat) (p1 : Int32) (p2 : Int32) (p3 : Int32) (S0 : fw_S) : Option (Int32) :=
  (Option.bind (F_Mo_isIn p1 (0 : Int32) ((fw_g S0 a0 14) - (1 : Int32)) S0) (fun x1 =>
  (if x1 = 0 then
  (some (-1 : Int32))
  else
  (Option.bind (F_Mo_isIn p3 (0 : Int32) (1 : Int32) S0) (fun x3 =>
  (if ¬ x3 = 0 then
  (fw_om (fw_r S0 a0 26) none (fun b5 =>
  (if p1 < 0 ∨ fw_l S0 b5 ≤ p1.toNatClampNeg then none else
  (Option.bind (F_Mo_isIn p2 (0 : Int32) ((fw_g S0 b5 p1.toNatClampNeg) - (1 : Int32)) S0) (fun x7 =>
  (if ¬ x7 = 0 then
  (if ¬ p3 = 0 then
  (fw_om (fw_r S0 a0 28) none (fun b9 =>
  (if (((60 : Int32) * p1) + p2) < 0 ∨ fw_l S0 b9 ≤ (((60 : Int32) * p1) + p2).toNatClampNeg then none else
  (some (fw_g S0 b9 (((60 : Int32) * p1) + p2).toNatClampNeg)))))
  else
  (fw_om (fw_r S0 a0 27) none (fun b11 =>
  (if (((60 : Int32) * p1) + p2) < 0 ∨ fw_l S0 b11 ≤ (((60 : Int32) * p1) + p2).toNatClampNeg then none else
  (some (fw_g S0 b11 (((60 : Int32) * p1) + p2).toNatClampNeg))))))
  else
  (some (-2 : Int32))))))))
  else
  (some (-1 : Int32))))))))
def F_Mo_joined (a0 : Nat) (p1 : Int32) (p2 : Int32) (p3 : Int32) (S0 : fw_S) : Option (Int32) :=
  (Option.bind (F_Mo_isIn p1 (0 : Int32) ((fw_g S0 a0 14) - (1 : Int32)) S0) (fun x1 =>
  (if x1 = 0 then
  (some (-1 : Int32))
  else
  (Option.bind (F_Mo_isIn p3 (0 : Int32) (1 : Int32) S0) (fun x3 =>
  (if ¬ x3 = 0 then
  (fw_om (fw_r S0 a0 17) none (fun b5 =>
  (if p1 < 0 ∨ fw_l S0 b5 ≤ p1.toNatClampNeg then none else
  (if ¬ (fw_g S0 b5 p1.toNatClampNeg) = (1 : Int32) then
  (some (-2 : Int32))
  else
  (Option.bind (F_Mo_joinedOnes a0 p1 (-1 : Int32) (0 : Int32) S0) (fun x7 =>
  (Option.bind (F_Mo_isIn p2 (0 : Int32) (x7 - (1 : Int32)) S0) (fun x9 =>
  (if ¬ x9 = 0 then
  (Option.bind (F_Mo_joinedOnes a0 p1 p2 p3 S0) (fun x11 =>
  (some x11)))
  else
  (some (-2 : Int32)))))))))))
  else
  (some (-1 : Int32))))))))
def F_Mo_estimate (a0 : Nat) (p1 : Int32) (S0 : fw_S) : Option (Int32) :=
  (Option.bind (F_Mo_isIn p1 (0 : Int32) (3 : Int32) S0) (fun x1 =>
  (if x1 = 0 then
  (some (-1 : Int32))
  else
  (fw_om (fw_r S0 a0 36) none (fun b3 =>
  (if p1 < 0 ∨ fw_l S0 b3 ≤ p1.toNatClampNeg then none else
  (some (fw_g S0 b3 p1.toNatClampNeg))))))))
def F_Mo_count (a0 : Nat) (p1 : Int32) (S0 : fw_S) : Option (Int32) :=
  (if p1 = (0 : Int32) then
  (some (fw_g S0 a0 14))
  else
  (if p1 = (1 : Int32) then
  (some (fw_g S0 a0 38))
  else
  (if p1 = (2 : Int32) then
  (some (fw_g S0 a0 11))
  else
  (if p1 = (3 : Int32) then
  (some (fw_g S0 a0 8))
  else
  (if p1 = (4 : Int32) then
  (some (fw_g S0 a0 9))
  else
  (if p1 = (5 : Int32) then
  (some (fw_g S0 a0 10))
  else
  (if p1 = (6 : Int32) then
  (some (fw_g S0 a0 42))
  else
  (if p1 = (7 : Int32) then
  (some (fw_g S0 a0 41))
  else
  (some (-1 : Int32))))))))))
def F_Mo_line (a0 : Nat) (p1 : Int32) (p2 : Int32) (S0 : fw_S) : Option (Int32) :=
  (Option.bind (F_Mo_isIn p1 (0 : Int32) (4 : Int32) S0) (fun x1 =>
  (if x1 = 0 then
  (some (-1 : Int32))
  else
  (Option.bind (F_Mo_isIn p2 (0 : Int32) (2 : Int32) S0) (fun x3 =>
  (if ¬ x3 = 0 then
  (if ¬ p2 = 0 then
  (if ¬ p2 = (1 : Int32) then
  (fw_om (fw_r S0 a0 4) none (fun b5 =>
  (if p1 < 0 ∨ fw_l S0 b5 ≤ p1.toNatClampNeg then none else
  (some (fw_g S0 b5 p1.toNatClampNeg)))))
  else
  (fw_om (fw_r S0 a0 2) none (fun b7 =>
  (if p1 < 0 ∨ fw_l S0 b7 ≤ p1.toNatClampNeg then none else
  (some (fw_g S0 b7 p1.toNatClampNeg))))))
  else
  (fw_om (fw_r S0 a0 0) none (fun b9 =>
  (if p1 < 0 ∨ fw_l S0 b9 ≤ p1.toNatClampNeg then none else
  (if (fw_g S0 b9 p1.toNatClampNeg) = 0 then
  (some (0 : Int32))
  else
  (some (1 : Int32)))))))
  else
  (some (-1 : Int32))))))))
end
section
set_option maxHeartbeats 4000000 in
set_option maxRecDepth 100000 in
theorem ct_Frame_init (l : Launch) (G : fw_G) (kd0 : Nat → Option Nat) (S0 : fw_S) (a0 : Nat) (S' : fw_S) (hk_a0 : kd0 a0 = some 0) (hE : F_Frame_init a0 S0 = some S') : fw_M l G y_Frame_init prog_2_method_1_code 1 none 1 20 1 18 kd0 S0 ([.ref a0] : List Value) none S' (fun _ => True) := by
  refine fw_start (by decide) (Nat.le_of_ble_eq_true rfl) ?_
  intro p e s m below meth c ls C hnm R hl
  have hx := C.1
  have hb := C.2.1
  have hl : lv_has ls 1 [(0, .ref a0)] := hl
  unfold F_Frame_init at hE
  refine lv_aload_n hx hb d_Frame_init_0 rfl (lv_at hl 0 rfl) ?_
  refine fw_obj C ft_obj_0_3 ob_1 ob_2 hl.1 d_Frame_init_1 (Nat.le_of_ble_eq_true rfl) (Nat.le_of_ble_eq_true rfl) ?_
  refine lv_aload_n hx hb d_Frame_init_4 rfl (lv_at hl 0 rfl) ?_
  refine lv_iconst (v := 0) hx hb d_Frame_init_5 (by decide) ?_
  refine fw_puti C R ft_field_0_9 rfl hk_a0 d_Frame_init_6 (fun H locs R => ?_)
  obtain ⟨S1, eS1, hE⟩ := fw_let_ex hE
  rw [← eS1] at R
  clear eS1
  refine lv_aload_n hx hb d_Frame_init_9 rfl (lv_at hl 0 rfl) ?_
  refine lv_iconst (v := 0) hx hb d_Frame_init_10 (by decide) ?_
  refine fw_puti C R ft_field_0_15 rfl hk_a0 d_Frame_init_11 (fun H locs R => ?_)
  obtain ⟨S2, eS2, hE⟩ := fw_let_ex hE
  rw [← eS2] at R
  clear eS2
  refine lv_aload_n hx hb d_Frame_init_14 rfl (lv_at hl 0 rfl) ?_
  refine lv_iconst (v := 0) hx hb d_Frame_init_15 (by decide) ?_
  refine fw_puti C R ft_field_0_18 rfl hk_a0 d_Frame_init_16 (fun H locs R => ?_)
  obtain ⟨S3, eS3, hE⟩ := fw_let_ex hE
  rw [← eS3] at R
  clear eS3
  refine lv_aload_n hx hb d_Frame_init_19 rfl (lv_at hl 0 rfl) ?_
  refine lv_bipush (v := 18) hx hb d_Frame_init_20 (by decide) ?_
  refine fw_newai C R (by decide) (by decide) (by decide) (by decide) d_Frame_init_22 (fun H kd6 hxkd6 hk_new R => ?_)
  refine W.widen (k := 1) (n := 18) (by decide) (by decide) ?_
  obtain ⟨b5, eb5, hE⟩ := fw_let_ex hE
  obtain ⟨S4, eS4, hE⟩ := fw_let_ex hE
  rw [← eS4] at R
  rw [← eb5] at hk_new ⊢
  have hk_b5 := hk_new
  have hXkd6 := fw_X.tr fw_X.rf hxkd6
  have hk_a0 := hxkd6 _ _ hk_a0
  clear eS4 eb5 hk_new
  refine fw_putFr C hnm R ft_field_0_21 rfl ft_nonest_0_21 rfl rfl (by decide) hk_b5 hk_a0 d_Frame_init_24 (fun H locs R => ?_)
  obtain ⟨S7, eS7, hE⟩ := fw_let_ex hE
  rw [← eS7] at R
  clear eS7
  cases hE
  refine W.widen (k := 1) (n := 18) (Nat.le_of_ble_eq_true rfl) (Nat.le_of_ble_eq_true rfl) ?_
  exact fw_vret C hXkd6 trivial R d_Frame_init_27
set_option maxHeartbeats 4000000 in
set_option maxRecDepth 100000 in
theorem ct_Frame_begin (l : Launch) (G : fw_G) (kd0 : Nat → Option Nat) (S0 : fw_S) (a0 : Nat) (p1 : Int32) (p2 : Int32) (S' : fw_S) (hk_a0 : kd0 a0 = some 0) (hE : F_Frame_begin a0 p1 p2 S0 = some S') : fw_M l G y_Frame_begin prog_2_method_2_code 3 none 0 0 0 0 kd0 S0 ([.ref a0, .int p1, .int p2] : List Value) none S' (fun k => k = kd0) := by
  refine fw_start (by decide) (Nat.le_of_ble_eq_true rfl) ?_
  intro p e s m below meth c ls C hnm R hl
  clear hnm
  have hx := C.1
  have hb := C.2.1
  have hl : lv_has ls 3 [(0, .ref a0), (1, .int p1), (2, .int p2)] := hl
  unfold F_Frame_begin at hE
  refine lv_aload_n hx hb d_Frame_begin_0 rfl (lv_at hl 0 rfl) ?_
  refine lv_iload_n hx hb d_Frame_begin_1 rfl (lv_at hl 1 rfl) ?_
  refine fw_puti C R ft_field_0_9 rfl hk_a0 d_Frame_begin_2 (fun H locs R => ?_)
  obtain ⟨S1, eS1, hE⟩ := fw_let_ex hE
  rw [← eS1] at R
  clear eS1
  refine lv_aload_n hx hb d_Frame_begin_5 rfl (lv_at hl 0 rfl) ?_
  refine lv_iload_n hx hb d_Frame_begin_6 rfl (lv_at hl 2 rfl) ?_
  refine fw_puti C R ft_field_0_15 rfl hk_a0 d_Frame_begin_7 (fun H locs R => ?_)
  obtain ⟨S2, eS2, hE⟩ := fw_let_ex hE
  rw [← eS2] at R
  clear eS2
  refine lv_aload_n hx hb d_Frame_begin_10 rfl (lv_at hl 0 rfl) ?_
  refine lv_iconst (v := 0) hx hb d_Frame_begin_11 (by decide) ?_
  refine fw_puti C R ft_field_0_18 rfl hk_a0 d_Frame_begin_12 (fun H locs R => ?_)
  obtain ⟨S3, eS3, hE⟩ := fw_let_ex hE
  rw [← eS3] at R
  clear eS3
  cases hE
  exact fw_vret C fw_X.rf rfl R d_Frame_begin_15
set_option maxHeartbeats 4000000 in
set_option maxRecDepth 100000 in
theorem ct_Frame_put (l : Launch) (G : fw_G) (kd0 : Nat → Option Nat) (S0 : fw_S) (a0 : Nat) (p1 : Int32) (S' : fw_S) (hk_a0 : kd0 a0 = some 0) (hE : F_Frame_put a0 p1 S0 = some S') : fw_M l G y_Frame_put prog_2_method_3_code 2 none 0 0 0 0 kd0 S0 ([.ref a0, .int p1] : List Value) none S' (fun k => k = kd0) := by
  refine fw_start (by decide) (Nat.le_of_ble_eq_true rfl) ?_
  intro p e s m below meth c ls C hnm R hl
  clear hnm
  have hx := C.1
  have hb := C.2.1
  have hl : lv_has ls 2 [(0, .ref a0), (1, .int p1)] := hl
  unfold F_Frame_put at hE
  refine lv_aload_n hx hb d_Frame_put_0 rfl (lv_at hl 0 rfl) ?_
  refine fw_get (v := .int (fw_g S0 a0 2)) C R ft_field_0_18 hk_a0 rfl d_Frame_put_1 ?_
  refine lv_if_lt (tgt := 43) hx hb d_Frame_put_4 (by decide) (fun hc => ?_) (fun hc => ?_)
  · replace hE := fw_if_t hc hE
    cases hE
    exact fw_vret C fw_X.rf rfl R d_Frame_put_43
  · replace hE := fw_if_f hc hE
    refine lv_aload_n hx hb d_Frame_put_7 rfl (lv_at hl 0 rfl) ?_
    refine fw_get (v := .int (fw_g S0 a0 2)) C R ft_field_0_18 hk_a0 rfl d_Frame_put_8 ?_
    refine lv_aload_n hx hb d_Frame_put_11 rfl (lv_at hl 0 rfl) ?_
    refine fw_getr C R ft_field_0_21 hk_a0 rfl rfl d_Frame_put_12 (fun hq => ?_) (fun b1 hq hk_b1 => ?_)
    · replace hE := fw_om_none hq hE
      cases hE
    · replace hE := fw_om_some hq hE
      refine fw_alen (K := 100) (ty := .int) C R (by decide) (by decide) hk_b1 d_Frame_put_15 ?_
      refine lv_icmp_ge (tgt := 43) hx hb d_Frame_put_16 (by decide) (fun hc => ?_) (fun hc => ?_)
      · replace hE := fw_if_t hc hE
        cases hE
        exact fw_vret C fw_X.rf rfl R d_Frame_put_43
      · replace hE := fw_if_f hc hE
        refine lv_aload_n hx hb d_Frame_put_19 rfl (lv_at hl 0 rfl) ?_
        refine fw_getr C R ft_field_0_21 hk_a0 rfl rfl d_Frame_put_20 (fun hq => ?_) (fun b2 hq hk_b2 => ?_)
        · replace hE := fw_om_none hq hE
          refine lv_aload_n hx hb d_Frame_put_23 rfl (lv_at hl 0 rfl) ?_
          refine fw_get (v := .int (fw_g S0 a0 2)) C R ft_field_0_18 hk_a0 rfl d_Frame_put_24 ?_
          refine lv_iload_n hx hb d_Frame_put_27 rfl (lv_at hl 1 rfl) ?_
          refine lv_sipush (v := 255) hx hb d_Frame_put_28 (by decide) ?_
          refine lv_iand hx hb d_Frame_put_31 ?_
          cases hE
        · replace hE := fw_om_some hq hE
          refine lv_aload_n hx hb d_Frame_put_23 rfl (lv_at hl 0 rfl) ?_
          refine fw_get (v := .int (fw_g S0 a0 2)) C R ft_field_0_18 hk_a0 rfl d_Frame_put_24 ?_
          refine lv_iload_n hx hb d_Frame_put_27 rfl (lv_at hl 1 rfl) ?_
          refine lv_sipush (v := 255) hx hb d_Frame_put_28 (by decide) ?_
          refine lv_iand hx hb d_Frame_put_31 ?_
          obtain ⟨hi3, hE⟩ := fw_ifn hE
          refine fw_iast C R (by decide) hk_b2 hi3 d_Frame_put_32 (fun H locs R => ?_)
          obtain ⟨S4, eS4, hE⟩ := fw_let_ex hE
          rw [← eS4] at R
          clear eS4
          refine lv_aload_n hx hb d_Frame_put_33 rfl (lv_at hl 0 rfl) ?_
          refine lv_dup hx hb d_Frame_put_34 rfl ?_
          refine fw_get (v := .int (fw_g S4 a0 2)) C R ft_field_0_18 hk_a0 rfl d_Frame_put_35 ?_
          refine lv_iconst (v := 1) hx hb d_Frame_put_38 (by decide) ?_
          refine lv_iadd hx hb d_Frame_put_39 ?_
          refine fw_puti C R ft_field_0_18 rfl hk_a0 d_Frame_put_40 (fun H locs R => ?_)
          obtain ⟨S5, eS5, hE⟩ := fw_let_ex hE
          rw [← eS5] at R
          clear eS5
          cases hE
          exact fw_vret C fw_X.rf rfl R d_Frame_put_43
set_option maxHeartbeats 4000000 in
set_option maxRecDepth 100000 in
theorem ct_Frame_byteAt (l : Launch) (G : fw_G) (kd0 : Nat → Option Nat) (S0 : fw_S) (a0 : Nat) (p1 : Int32) (r0 : Int32) (hk_a0 : kd0 a0 = some 0) (hE : F_Frame_byteAt a0 p1 S0 = some r0) : fw_M l G y_Frame_byteAt prog_2_method_4_code 2 (some .int) 0 0 0 0 kd0 S0 ([.ref a0, .int p1] : List Value) (some (.int r0)) S0 (fun k => k = kd0) := by
  refine fw_start (by decide) (Nat.le_of_ble_eq_true rfl) ?_
  intro p e s m below meth c ls C hnm R hl
  clear hnm
  have hx := C.1
  have hb := C.2.1
  have hl : lv_has ls 2 [(0, .ref a0), (1, .int p1)] := hl
  unfold F_Frame_byteAt at hE
  refine lv_iload_n hx hb d_Frame_byteAt_0 rfl (lv_at hl 1 rfl) ?_
  refine lv_if_lt (tgt := 30) hx hb d_Frame_byteAt_1 (by decide) (fun hc => ?_) (fun hc => ?_)
  · replace hE := fw_if_t hc hE
    refine lv_iconst (v := 0) hx hb d_Frame_byteAt_30 (by decide) ?_
    cases hE
    exact fw_iret C fw_X.rf rfl R d_Frame_byteAt_31
  · replace hE := fw_if_f hc hE
    refine lv_iload_n hx hb d_Frame_byteAt_4 rfl (lv_at hl 1 rfl) ?_
    refine lv_aload_n hx hb d_Frame_byteAt_5 rfl (lv_at hl 0 rfl) ?_
    refine fw_get (v := .int (fw_g S0 a0 2)) C R ft_field_0_18 hk_a0 rfl d_Frame_byteAt_6 ?_
    refine lv_icmp_ge (tgt := 30) hx hb d_Frame_byteAt_9 (by decide) (fun hc => ?_) (fun hc => ?_)
    · replace hE := fw_if_t hc hE
      refine lv_iconst (v := 0) hx hb d_Frame_byteAt_30 (by decide) ?_
      cases hE
      exact fw_iret C fw_X.rf rfl R d_Frame_byteAt_31
    · replace hE := fw_if_f hc hE
      refine lv_iload_n hx hb d_Frame_byteAt_12 rfl (lv_at hl 1 rfl) ?_
      refine lv_aload_n hx hb d_Frame_byteAt_13 rfl (lv_at hl 0 rfl) ?_
      refine fw_getr C R ft_field_0_21 hk_a0 rfl rfl d_Frame_byteAt_14 (fun hq => ?_) (fun b1 hq hk_b1 => ?_)
      · replace hE := fw_om_none hq hE
        cases hE
      · replace hE := fw_om_some hq hE
        refine fw_alen (K := 100) (ty := .int) C R (by decide) (by decide) hk_b1 d_Frame_byteAt_17 ?_
        refine lv_icmp_ge (tgt := 30) hx hb d_Frame_byteAt_18 (by decide) (fun hc => ?_) (fun hc => ?_)
        · replace hE := fw_if_t hc hE
          refine lv_iconst (v := 0) hx hb d_Frame_byteAt_30 (by decide) ?_
          cases hE
          exact fw_iret C fw_X.rf rfl R d_Frame_byteAt_31
        · replace hE := fw_if_f hc hE
          refine lv_aload_n hx hb d_Frame_byteAt_21 rfl (lv_at hl 0 rfl) ?_
          refine fw_getr C R ft_field_0_21 hk_a0 rfl rfl d_Frame_byteAt_22 (fun hq => ?_) (fun b2 hq hk_b2 => ?_)
          · replace hE := fw_om_none hq hE
            refine lv_iload_n hx hb d_Frame_byteAt_25 rfl (lv_at hl 1 rfl) ?_
            cases hE
          · replace hE := fw_om_some hq hE
            refine lv_iload_n hx hb d_Frame_byteAt_25 rfl (lv_at hl 1 rfl) ?_
            obtain ⟨hi3, hE⟩ := fw_ifn hE
            refine fw_iald C R (by decide) hk_b2 hi3 d_Frame_byteAt_26 ?_
            refine lv_goto (tgt := 31) hx hb d_Frame_byteAt_27 (by decide) ?_
            cases hE
            exact fw_iret C fw_X.rf rfl R d_Frame_byteAt_31
set_option maxHeartbeats 4000000 in
set_option maxRecDepth 100000 in
theorem ct_Frame_sum (l : Launch) (G : fw_G) (kd0 : Nat → Option Nat) (S0 : fw_S) (a0 : Nat) (r0 : Int32) (hk_a0 : kd0 a0 = some 0) (hE : F_Frame_sum a0 S0 = some r0) : fw_M l G y_Frame_sum prog_2_method_5_code 3 (some .int) 0 0 0 0 kd0 S0 ([.ref a0] : List Value) (some (.int r0)) S0 (fun k => k = kd0) := by
  refine fw_start (by decide) (Nat.le_of_ble_eq_true rfl) ?_
  intro p e s m below meth c ls C hnm R hl
  clear hnm
  have hx := C.1
  have hb := C.2.1
  have hl : lv_has ls 3 [(0, .ref a0)] := hl
  have h_l17 : ∀ (n : Nat), ∀ v0 : Nat, ∀ v1 : Int32, ∀ v2 : Int32, kd0 v0 = some 0 → ∀ (H : Heap) (locs : List Loc) (ls : Array Slot), fw_R G kd0 S0 H locs → lv_has ls 3 [(0, .ref v0), (1, .int v1), (2, .int v2)] → F_Frame_sum_l17 S0 n v0 v1 v2 = some r0 → W p l e { frames := 0, cells := 0, slots := 0, locals := 0 } s m ([.ref a0] : List Value).toArray below meth c H locs 0 0 (MQ below (fw_Q G kd0 (some (.int r0)) S0 (fun k => k = kd0)) ([.ref a0] : List Value).toArray s 0 0 (fw_A G)) (F0 m 17 ls []) := by
    intro n
    induction n with
    | zero =>
      intro v0 v1 v2 hk_v0 H locs ls R hl hE
      rw [F_Frame_sum_l17] at hE
      cases hE
    | succ n ih =>
      intro v0 v1 v2 hk_v0 H locs ls R hl hE
      rw [F_Frame_sum_l17] at hE
      refine lv_iload_n hx hb d_Frame_sum_17 rfl (lv_at hl 2 rfl) ?_
      refine lv_aload_n hx hb d_Frame_sum_18 rfl (lv_at hl 0 rfl) ?_
      refine fw_get (v := .int (fw_g S0 v0 2)) C R ft_field_0_18 hk_v0 rfl d_Frame_sum_19 ?_
      refine lv_icmp_ge (tgt := 49) hx hb d_Frame_sum_22 (by decide) (fun hc => ?_) (fun hc => ?_)
      · replace hE := fw_if_t hc hE
        refine lv_iload_n hx hb d_Frame_sum_49 rfl (lv_at hl 1 rfl) ?_
        cases hE
        exact fw_iret C fw_X.rf rfl R d_Frame_sum_50
      · replace hE := fw_if_f hc hE
        refine lv_iload_n hx hb d_Frame_sum_25 rfl (lv_at hl 2 rfl) ?_
        refine lv_aload_n hx hb d_Frame_sum_26 rfl (lv_at hl 0 rfl) ?_
        refine fw_getr C R ft_field_0_21 hk_v0 rfl rfl d_Frame_sum_27 (fun hq => ?_) (fun b2 hq hk_b2 => ?_)
        · replace hE := fw_om_none hq hE
          cases hE
        · replace hE := fw_om_some hq hE
          refine fw_alen (K := 100) (ty := .int) C R (by decide) (by decide) hk_b2 d_Frame_sum_30 ?_
          refine lv_icmp_ge (tgt := 49) hx hb d_Frame_sum_31 (by decide) (fun hc => ?_) (fun hc => ?_)
          · replace hE := fw_if_t hc hE
            refine lv_iload_n hx hb d_Frame_sum_49 rfl (lv_at hl 1 rfl) ?_
            cases hE
            exact fw_iret C fw_X.rf rfl R d_Frame_sum_50
          · replace hE := fw_if_f hc hE
            refine lv_iload_n hx hb d_Frame_sum_34 rfl (lv_at hl 1 rfl) ?_
            refine lv_aload_n hx hb d_Frame_sum_35 rfl (lv_at hl 0 rfl) ?_
            refine fw_getr C R ft_field_0_21 hk_v0 rfl rfl d_Frame_sum_36 (fun hq => ?_) (fun b3 hq hk_b3 => ?_)
            · replace hE := fw_om_none hq hE
              refine lv_iload_n hx hb d_Frame_sum_39 rfl (lv_at hl 2 rfl) ?_
              cases hE
            · replace hE := fw_om_some hq hE
              refine lv_iload_n hx hb d_Frame_sum_39 rfl (lv_at hl 2 rfl) ?_
              obtain ⟨hi4, hE⟩ := fw_ifn hE
              refine fw_iald C R (by decide) hk_b3 hi4 d_Frame_sum_40 ?_
              refine lv_ixor hx hb d_Frame_sum_41 ?_
              refine lv_topi (fun x5 ex5 => ?_)
              replace hE := fw_let_use ex5 hE
              clear ex5
              refine lv_istore_n (lv' := [(1, .int x5), (0, .ref v0), (2, .int v2)]) hx hb d_Frame_sum_42 rfl hl (by decide) rfl (fun ls hl => ?_)
              refine lv_iinc (v := (v2 + (1 : Int32))) (lv' := [(2, .int (v2 + (1 : Int32))), (1, .int x5), (0, .ref v0)]) hx hb d_Frame_sum_43 hl (k := 2) rfl rfl (by decide) rfl (fun ls hl => ?_)
              refine lv_goto (tgt := 17) hx hb d_Frame_sum_46 (by decide) ?_
              exact ih _ _ _ hk_v0 _ _ _ R (lv_sub hl [2, 1, 0] rfl) hE
  unfold F_Frame_sum at hE
  refine lv_aload_n hx hb d_Frame_sum_0 rfl (lv_at hl 0 rfl) ?_
  refine fw_get (v := .int (fw_g S0 a0 0)) C R ft_field_0_9 hk_a0 rfl d_Frame_sum_1 ?_
  refine lv_aload_n hx hb d_Frame_sum_4 rfl (lv_at hl 0 rfl) ?_
  refine fw_get (v := .int (fw_g S0 a0 1)) C R ft_field_0_15 hk_a0 rfl d_Frame_sum_5 ?_
  refine lv_ixor hx hb d_Frame_sum_8 ?_
  refine lv_aload_n hx hb d_Frame_sum_9 rfl (lv_at hl 0 rfl) ?_
  refine fw_get (v := .int (fw_g S0 a0 2)) C R ft_field_0_18 hk_a0 rfl d_Frame_sum_10 ?_
  refine lv_ixor hx hb d_Frame_sum_13 ?_
  refine lv_topi (fun x1 ex1 => ?_)
  replace hE := fw_let_use ex1 hE
  clear ex1
  refine lv_istore_n (lv' := [(1, .int x1), (0, .ref a0)]) hx hb d_Frame_sum_14 rfl hl (by decide) rfl (fun ls hl => ?_)
  refine lv_iconst (v := 0) hx hb d_Frame_sum_15 (by decide) ?_
  refine lv_istore_n (lv' := [(2, .int (0 : Int32)), (1, .int x1), (0, .ref a0)]) hx hb d_Frame_sum_16 rfl hl (by decide) rfl (fun ls hl => ?_)
  exact h_l17 _ _ _ _ hk_a0 _ _ _ R (lv_sub hl [2, 1, 0] rfl) hE
set_option maxHeartbeats 4000000 in
set_option maxRecDepth 100000 in
theorem ct_Pairs_init (l : Launch) (G : fw_G) (kd0 : Nat → Option Nat) (S0 : fw_S) (a0 : Nat) (p1 : Int32) (S' : fw_S) (hk_a0 : kd0 a0 = some 2) (hE : F_Pairs_init a0 p1 S0 = some S') : fw_M l G y_Pairs_init prog_4_method_1_code 3 none 1 21 2 128 kd0 S0 ([.ref a0, .int p1] : List Value) none S' (fun _ => True) := by
  refine fw_start (by decide) (Nat.le_of_ble_eq_true rfl) ?_
  intro p e s m below meth c ls C hnm R hl
  have hx := C.1
  have hb := C.2.1
  have hl : lv_has ls 3 [(0, .ref a0), (1, .int p1)] := hl
  unfold F_Pairs_init at hE
  refine lv_aload_n hx hb d_Pairs_init_0 rfl (lv_at hl 0 rfl) ?_
  refine fw_obj C ft_obj_2_3 ob_1 ob_2 hl.1 d_Pairs_init_1 (Nat.le_of_ble_eq_true rfl) (Nat.le_of_ble_eq_true rfl) ?_
  refine lv_aload_n hx hb d_Pairs_init_4 rfl (lv_at hl 0 rfl) ?_
  refine lv_iconst (v := 0) hx hb d_Pairs_init_5 (by decide) ?_
  refine fw_puti C R ft_field_2_9 rfl hk_a0 d_Pairs_init_6 (fun H locs R => ?_)
  obtain ⟨S1, eS1, hE⟩ := fw_let_ex hE
  rw [← eS1] at R
  clear eS1
  refine lv_iload_n hx hb d_Pairs_init_9 rfl (lv_at hl 1 rfl) ?_
  refine lv_iconst (v := 0) hx hb d_Pairs_init_10 (by decide) ?_
  refine fw_max C ft_max_2_15 mmax_1 mmax_2 mmax_3 hl.1 (Nat.le_of_ble_eq_true rfl) (Nat.le_of_ble_eq_true rfl) (Nat.le_of_ble_eq_true rfl) (Nat.le_of_ble_eq_true rfl) d_Pairs_init_11 ?_
  refine lv_topi (fun x2 ex2 => ?_)
  replace hE := fw_let_use ex2 hE
  clear ex2
  refine lv_istore_n (lv' := [(2, .int x2), (0, .ref a0), (1, .int p1)]) hx hb d_Pairs_init_14 rfl hl (by decide) rfl (fun ls hl => ?_)
  refine lv_aload_n hx hb d_Pairs_init_15 rfl (lv_at hl 1 rfl) ?_
  refine lv_iload_n hx hb d_Pairs_init_16 rfl (lv_at hl 0 rfl) ?_
  obtain ⟨hb3, hE⟩ := fw_ifn hE
  refine fw_newai C R (fun q => hb3 (Or.inl q)) (fw_bd1 hb3) (by decide) (fw_bd2 hb3 (by decide)) d_Pairs_init_17 (fun H kd6 hxkd6 hk_new R => ?_)
  refine W.widen (k := 1) (n := 64) (by decide) (fw_bd3 hb3) ?_
  obtain ⟨b5, eb5, hE⟩ := fw_let_ex hE
  obtain ⟨S4, eS4, hE⟩ := fw_let_ex hE
  rw [← eS4] at R
  rw [← eb5] at hk_new ⊢
  have hk_b5 := hk_new
  have hXkd6 := fw_X.tr fw_X.rf hxkd6
  have hk_a0 := hxkd6 _ _ hk_a0
  clear eS4 eb5 hk_new
  refine fw_putFr C hnm R ft_field_2_21 rfl ft_nonest_2_21 rfl rfl (by decide) hk_b5 hk_a0 d_Pairs_init_19 (fun H locs R => ?_)
  obtain ⟨S7, eS7, hE⟩ := fw_let_ex hE
  rw [← eS7] at R
  clear eS7
  refine lv_aload_n hx hb d_Pairs_init_22 rfl (lv_at hl 1 rfl) ?_
  refine lv_iload_n hx hb d_Pairs_init_23 rfl (lv_at hl 0 rfl) ?_
  obtain ⟨hb8, hE⟩ := fw_ifn hE
  refine fw_newai C R (fun q => hb8 (Or.inl q)) (fw_bd1 hb8) (by decide) (fw_bd2 hb8 (by decide)) d_Pairs_init_24 (fun H kd11 hxkd11 hk_new R => ?_)
  refine W.widen (k := 2) (n := 128) (by decide) (fw_bd3 hb8) ?_
  obtain ⟨b10, eb10, hE⟩ := fw_let_ex hE
  obtain ⟨S9, eS9, hE⟩ := fw_let_ex hE
  rw [← eS9] at R
  rw [← eb10] at hk_new ⊢
  have hk_b10 := hk_new
  have hXkd11 := fw_X.tr hXkd6 hxkd11
  have hk_a0 := hxkd11 _ _ hk_a0
  have hk_b5 := hxkd11 _ _ hk_b5
  clear eS9 eb10 hk_new
  refine fw_putFr C hnm R ft_field_2_25 rfl ft_nonest_2_25 rfl rfl (by decide) hk_b10 hk_a0 d_Pairs_init_26 (fun H locs R => ?_)
  obtain ⟨S12, eS12, hE⟩ := fw_let_ex hE
  rw [← eS12] at R
  clear eS12
  cases hE
  refine W.widen (k := 2) (n := 128) (Nat.le_of_ble_eq_true rfl) (Nat.le_of_ble_eq_true rfl) ?_
  exact fw_vret C hXkd11 trivial R d_Pairs_init_29
set_option maxHeartbeats 4000000 in
set_option maxRecDepth 100000 in
theorem ct_Memory_init (l : Launch) (G : fw_G) (kd0 : Nat → Option Nat) (S0 : fw_S) (a0 : Nat) (S' : fw_S) (hk_a0 : kd0 a0 = some 1) (hE : F_Memory_init a0 S0 = some S') : fw_M l G y_Memory_init prog_3_method_1_code 1 none 2 43 3 131 kd0 S0 ([.ref a0] : List Value) none S' (fun _ => True) := by
  refine fw_start (by decide) (Nat.le_of_ble_eq_true rfl) ?_
  intro p e s m below meth c ls C hnm R hl
  have hx := C.1
  have hb := C.2.1
  have hl : lv_has ls 1 [(0, .ref a0)] := hl
  unfold F_Memory_init at hE
  refine lv_aload_n hx hb d_Memory_init_0 rfl (lv_at hl 0 rfl) ?_
  refine fw_obj C ft_obj_1_3 ob_1 ob_2 hl.1 d_Memory_init_1 (Nat.le_of_ble_eq_true rfl) (Nat.le_of_ble_eq_true rfl) ?_
  refine lv_aload_n hx hb d_Memory_init_4 rfl (lv_at hl 0 rfl) ?_
  refine lv_iconst (v := 0) hx hb d_Memory_init_5 (by decide) ?_
  refine fw_puti C R ft_field_1_9 rfl hk_a0 d_Memory_init_6 (fun H locs R => ?_)
  obtain ⟨S1, eS1, hE⟩ := fw_let_ex hE
  rw [← eS1] at R
  clear eS1
  refine lv_aload_n hx hb d_Memory_init_9 rfl (lv_at hl 0 rfl) ?_
  refine lv_iconst (v := 0) hx hb d_Memory_init_10 (by decide) ?_
  refine fw_puti C R ft_field_1_15 rfl hk_a0 d_Memory_init_11 (fun H locs R => ?_)
  obtain ⟨S2, eS2, hE⟩ := fw_let_ex hE
  rw [← eS2] at R
  clear eS2
  refine lv_aload_n hx hb d_Memory_init_14 rfl (lv_at hl 0 rfl) ?_
  refine lv_iconst (v := 0) hx hb d_Memory_init_15 (by decide) ?_
  refine fw_puti C R ft_field_1_18 rfl hk_a0 d_Memory_init_16 (fun H locs R => ?_)
  obtain ⟨S3, eS3, hE⟩ := fw_let_ex hE
  rw [← eS3] at R
  clear eS3
  refine lv_aload_n hx hb d_Memory_init_19 rfl (lv_at hl 0 rfl) ?_
  refine fw_new C R cl_2 nd_2 ft_new_1_21 ni_2 nj_2 (Nat.le_of_ble_eq_true rfl) (Nat.le_of_ble_eq_true rfl) d_Memory_init_20 (fun H kd6 hxkd6 hk_new R => ?_)
  refine W.widen (k := 1) (n := 3) (by decide) (by decide) ?_
  obtain ⟨b5, eb5, hE⟩ := fw_let_ex hE
  obtain ⟨S4, eS4, hE⟩ := fw_let_ex hE
  rw [← eS4] at R
  rw [← eb5] at hk_new ⊢
  have hk_b5 := hk_new
  have hXkd6 := fw_X.tr fw_X.rf hxkd6
  have hk_a0 := hxkd6 _ _ hk_a0
  clear eS4 eb5 hk_new
  refine lv_dup hx hb d_Memory_init_23 rfl ?_
  refine lv_bipush (v := 60) hx hb d_Memory_init_24 (by decide) ?_
  obtain ⟨S7, hF, hE⟩ := fw_bind hE
  refine fw_callI (As := [.int (60 : Int32)]) (rest := [.ref b5, .ref a0]) C R ft_callI_1_23 yi_Pairs_init rfl (ct_Pairs_init l G kd6 S4 _ _ _ hk_b5 hF) rfl hl.1 rfl (lv_room (Nat.le_of_ble_eq_true rfl)) ⟨Nat.le_of_ble_eq_true rfl, Nat.le_of_ble_eq_true rfl⟩ ⟨Nat.le_of_ble_eq_true rfl, Nat.le_of_ble_eq_true rfl⟩ d_Memory_init_26 (fun H locs kd8 hxkd8 hP R => ?_)
  refine W.widen (k := 3) (n := 131) (by decide) (by decide) ?_
  have hXkd8 := fw_X.tr hXkd6 hxkd8
  have hk_a0 := hxkd8 _ _ hk_a0
  have hk_b5 := hxkd8 _ _ hk_b5
  refine fw_putFr C hnm R ft_field_1_26 rfl ft_nonest_1_26 rfl rfl (by decide) hk_b5 hk_a0 d_Memory_init_29 (fun H locs R => ?_)
  obtain ⟨S9, eS9, hE⟩ := fw_let_ex hE
  rw [← eS9] at R
  clear eS9
  cases hE
  refine W.widen (k := 3) (n := 131) (Nat.le_of_ble_eq_true rfl) (Nat.le_of_ble_eq_true rfl) ?_
  exact fw_vret C hXkd8 trivial R d_Memory_init_32
set_option maxHeartbeats 4000000 in
set_option maxRecDepth 100000 in
theorem ct_Pairs_add (l : Launch) (G : fw_G) (kd0 : Nat → Option Nat) (S0 : fw_S) (a0 : Nat) (p1 : Int32) (p2 : Int32) (r0 : Int32) (S' : fw_S) (hk_a0 : kd0 a0 = some 2) (hE : F_Pairs_add a0 p1 p2 S0 = some (r0, S')) : fw_M l G y_Pairs_add prog_4_method_2_code 3 (some .boolean) 0 0 0 0 kd0 S0 ([.ref a0, .int p1, .int p2] : List Value) (some (.int r0)) S' (fun k => k = kd0) := by
  refine fw_start (by decide) (Nat.le_of_ble_eq_true rfl) ?_
  intro p e s m below meth c ls C hnm R hl
  clear hnm
  have hx := C.1
  have hb := C.2.1
  have hl : lv_has ls 3 [(0, .ref a0), (1, .int p1), (2, .int p2)] := hl
  unfold F_Pairs_add at hE
  refine lv_aload_n hx hb d_Pairs_add_0 rfl (lv_at hl 0 rfl) ?_
  refine fw_get (v := .int (fw_g S0 a0 2)) C R ft_field_2_9 hk_a0 rfl d_Pairs_add_1 ?_
  refine lv_if_lt (tgt := 31) hx hb d_Pairs_add_4 (by decide) (fun hc => ?_) (fun hc => ?_)
  · replace hE := fw_if_t hc hE
    refine lv_iconst (v := 0) hx hb d_Pairs_add_31 (by decide) ?_
    cases hE
    exact fw_zret C (by decide) fw_X.rf rfl R d_Pairs_add_32
  · replace hE := fw_if_f hc hE
    refine lv_aload_n hx hb d_Pairs_add_7 rfl (lv_at hl 0 rfl) ?_
    refine fw_get (v := .int (fw_g S0 a0 2)) C R ft_field_2_9 hk_a0 rfl d_Pairs_add_8 ?_
    refine lv_aload_n hx hb d_Pairs_add_11 rfl (lv_at hl 0 rfl) ?_
    refine fw_getr C R ft_field_2_21 hk_a0 rfl rfl d_Pairs_add_12 (fun hq => ?_) (fun b1 hq hk_b1 => ?_)
    · replace hE := fw_om_none hq hE
      cases hE
    · replace hE := fw_om_some hq hE
      refine fw_alen (K := 100) (ty := .int) C R (by decide) (by decide) hk_b1 d_Pairs_add_15 ?_
      refine lv_icmp_ge (tgt := 31) hx hb d_Pairs_add_16 (by decide) (fun hc => ?_) (fun hc => ?_)
      · replace hE := fw_if_t hc hE
        refine lv_iconst (v := 0) hx hb d_Pairs_add_31 (by decide) ?_
        cases hE
        exact fw_zret C (by decide) fw_X.rf rfl R d_Pairs_add_32
      · replace hE := fw_if_f hc hE
        refine lv_aload_n hx hb d_Pairs_add_19 rfl (lv_at hl 0 rfl) ?_
        refine fw_get (v := .int (fw_g S0 a0 2)) C R ft_field_2_9 hk_a0 rfl d_Pairs_add_20 ?_
        refine lv_aload_n hx hb d_Pairs_add_23 rfl (lv_at hl 0 rfl) ?_
        refine fw_getr C R ft_field_2_25 hk_a0 rfl rfl d_Pairs_add_24 (fun hq => ?_) (fun b2 hq hk_b2 => ?_)
        · replace hE := fw_om_none hq hE
          cases hE
        · replace hE := fw_om_some hq hE
          refine fw_alen (K := 100) (ty := .int) C R (by decide) (by decide) hk_b2 d_Pairs_add_27 ?_
          refine lv_icmp_lt (tgt := 33) hx hb d_Pairs_add_28 (by decide) (fun hc => ?_) (fun hc => ?_)
          · replace hE := fw_if_t hc hE
            refine lv_aload_n hx hb d_Pairs_add_33 rfl (lv_at hl 0 rfl) ?_
            refine fw_getr C R ft_field_2_21 hk_a0 rfl rfl d_Pairs_add_34 (fun hq => ?_) (fun b3 hq hk_b3 => ?_)
            · replace hE := fw_om_none hq hE
              refine lv_aload_n hx hb d_Pairs_add_37 rfl (lv_at hl 0 rfl) ?_
              refine fw_get (v := .int (fw_g S0 a0 2)) C R ft_field_2_9 hk_a0 rfl d_Pairs_add_38 ?_
              refine lv_iload_n hx hb d_Pairs_add_41 rfl (lv_at hl 1 rfl) ?_
              cases hE
            · replace hE := fw_om_some hq hE
              refine lv_aload_n hx hb d_Pairs_add_37 rfl (lv_at hl 0 rfl) ?_
              refine fw_get (v := .int (fw_g S0 a0 2)) C R ft_field_2_9 hk_a0 rfl d_Pairs_add_38 ?_
              refine lv_iload_n hx hb d_Pairs_add_41 rfl (lv_at hl 1 rfl) ?_
              obtain ⟨hi4, hE⟩ := fw_ifn hE
              refine fw_iast C R (by decide) hk_b3 hi4 d_Pairs_add_42 (fun H locs R => ?_)
              obtain ⟨S5, eS5, hE⟩ := fw_let_ex hE
              rw [← eS5] at R
              clear eS5
              refine lv_aload_n hx hb d_Pairs_add_43 rfl (lv_at hl 0 rfl) ?_
              refine fw_getr C R ft_field_2_25 hk_a0 rfl rfl d_Pairs_add_44 (fun hq => ?_) (fun b6 hq hk_b6 => ?_)
              · replace hE := fw_om_none hq hE
                refine lv_aload_n hx hb d_Pairs_add_47 rfl (lv_at hl 0 rfl) ?_
                refine fw_get (v := .int (fw_g S5 a0 2)) C R ft_field_2_9 hk_a0 rfl d_Pairs_add_48 ?_
                refine lv_iload_n hx hb d_Pairs_add_51 rfl (lv_at hl 2 rfl) ?_
                cases hE
              · replace hE := fw_om_some hq hE
                refine lv_aload_n hx hb d_Pairs_add_47 rfl (lv_at hl 0 rfl) ?_
                refine fw_get (v := .int (fw_g S5 a0 2)) C R ft_field_2_9 hk_a0 rfl d_Pairs_add_48 ?_
                refine lv_iload_n hx hb d_Pairs_add_51 rfl (lv_at hl 2 rfl) ?_
                obtain ⟨hi7, hE⟩ := fw_ifn hE
                refine fw_iast C R (by decide) hk_b6 hi7 d_Pairs_add_52 (fun H locs R => ?_)
                obtain ⟨S8, eS8, hE⟩ := fw_let_ex hE
                rw [← eS8] at R
                clear eS8
                refine lv_aload_n hx hb d_Pairs_add_53 rfl (lv_at hl 0 rfl) ?_
                refine lv_dup hx hb d_Pairs_add_54 rfl ?_
                refine fw_get (v := .int (fw_g S8 a0 2)) C R ft_field_2_9 hk_a0 rfl d_Pairs_add_55 ?_
                refine lv_iconst (v := 1) hx hb d_Pairs_add_58 (by decide) ?_
                refine lv_iadd hx hb d_Pairs_add_59 ?_
                refine fw_puti C R ft_field_2_9 rfl hk_a0 d_Pairs_add_60 (fun H locs R => ?_)
                obtain ⟨S9, eS9, hE⟩ := fw_let_ex hE
                rw [← eS9] at R
                clear eS9
                refine lv_iconst (v := 1) hx hb d_Pairs_add_63 (by decide) ?_
                cases hE
                exact fw_zret C (by decide) fw_X.rf rfl R d_Pairs_add_64
          · replace hE := fw_if_f hc hE
            refine lv_iconst (v := 0) hx hb d_Pairs_add_31 (by decide) ?_
            cases hE
            exact fw_zret C (by decide) fw_X.rf rfl R d_Pairs_add_32
set_option maxHeartbeats 4000000 in
set_option maxRecDepth 100000 in
theorem ct_Pairs_keyAt (l : Launch) (G : fw_G) (kd0 : Nat → Option Nat) (S0 : fw_S) (a0 : Nat) (p1 : Int32) (r0 : Int32) (hk_a0 : kd0 a0 = some 2) (hE : F_Pairs_keyAt a0 p1 S0 = some r0) : fw_M l G y_Pairs_keyAt prog_4_method_3_code 2 (some .int) 0 0 0 0 kd0 S0 ([.ref a0, .int p1] : List Value) (some (.int r0)) S0 (fun k => k = kd0) := by
  refine fw_start (by decide) (Nat.le_of_ble_eq_true rfl) ?_
  intro p e s m below meth c ls C hnm R hl
  clear hnm
  have hx := C.1
  have hb := C.2.1
  have hl : lv_has ls 2 [(0, .ref a0), (1, .int p1)] := hl
  unfold F_Pairs_keyAt at hE
  refine lv_iload_n hx hb d_Pairs_keyAt_0 rfl (lv_at hl 1 rfl) ?_
  refine lv_if_lt (tgt := 30) hx hb d_Pairs_keyAt_1 (by decide) (fun hc => ?_) (fun hc => ?_)
  · replace hE := fw_if_t hc hE
    refine lv_bipush (v := -2) hx hb d_Pairs_keyAt_30 (by decide) ?_
    cases hE
    exact fw_iret C fw_X.rf rfl R d_Pairs_keyAt_32
  · replace hE := fw_if_f hc hE
    refine lv_iload_n hx hb d_Pairs_keyAt_4 rfl (lv_at hl 1 rfl) ?_
    refine lv_aload_n hx hb d_Pairs_keyAt_5 rfl (lv_at hl 0 rfl) ?_
    refine fw_get (v := .int (fw_g S0 a0 2)) C R ft_field_2_9 hk_a0 rfl d_Pairs_keyAt_6 ?_
    refine lv_icmp_ge (tgt := 30) hx hb d_Pairs_keyAt_9 (by decide) (fun hc => ?_) (fun hc => ?_)
    · replace hE := fw_if_t hc hE
      refine lv_bipush (v := -2) hx hb d_Pairs_keyAt_30 (by decide) ?_
      cases hE
      exact fw_iret C fw_X.rf rfl R d_Pairs_keyAt_32
    · replace hE := fw_if_f hc hE
      refine lv_iload_n hx hb d_Pairs_keyAt_12 rfl (lv_at hl 1 rfl) ?_
      refine lv_aload_n hx hb d_Pairs_keyAt_13 rfl (lv_at hl 0 rfl) ?_
      refine fw_getr C R ft_field_2_21 hk_a0 rfl rfl d_Pairs_keyAt_14 (fun hq => ?_) (fun b1 hq hk_b1 => ?_)
      · replace hE := fw_om_none hq hE
        cases hE
      · replace hE := fw_om_some hq hE
        refine fw_alen (K := 100) (ty := .int) C R (by decide) (by decide) hk_b1 d_Pairs_keyAt_17 ?_
        refine lv_icmp_ge (tgt := 30) hx hb d_Pairs_keyAt_18 (by decide) (fun hc => ?_) (fun hc => ?_)
        · replace hE := fw_if_t hc hE
          refine lv_bipush (v := -2) hx hb d_Pairs_keyAt_30 (by decide) ?_
          cases hE
          exact fw_iret C fw_X.rf rfl R d_Pairs_keyAt_32
        · replace hE := fw_if_f hc hE
          refine lv_aload_n hx hb d_Pairs_keyAt_21 rfl (lv_at hl 0 rfl) ?_
          refine fw_getr C R ft_field_2_21 hk_a0 rfl rfl d_Pairs_keyAt_22 (fun hq => ?_) (fun b2 hq hk_b2 => ?_)
          · replace hE := fw_om_none hq hE
            refine lv_iload_n hx hb d_Pairs_keyAt_25 rfl (lv_at hl 1 rfl) ?_
            cases hE
          · replace hE := fw_om_some hq hE
            refine lv_iload_n hx hb d_Pairs_keyAt_25 rfl (lv_at hl 1 rfl) ?_
            obtain ⟨hi3, hE⟩ := fw_ifn hE
            refine fw_iald C R (by decide) hk_b2 hi3 d_Pairs_keyAt_26 ?_
            refine lv_goto (tgt := 32) hx hb d_Pairs_keyAt_27 (by decide) ?_
            cases hE
            exact fw_iret C fw_X.rf rfl R d_Pairs_keyAt_32
set_option maxHeartbeats 4000000 in
set_option maxRecDepth 100000 in
theorem ct_Pairs_valueAt (l : Launch) (G : fw_G) (kd0 : Nat → Option Nat) (S0 : fw_S) (a0 : Nat) (p1 : Int32) (r0 : Int32) (hk_a0 : kd0 a0 = some 2) (hE : F_Pairs_valueAt a0 p1 S0 = some r0) : fw_M l G y_Pairs_valueAt prog_4_method_4_code 2 (some .int) 0 0 0 0 kd0 S0 ([.ref a0, .int p1] : List Value) (some (.int r0)) S0 (fun k => k = kd0) := by
  refine fw_start (by decide) (Nat.le_of_ble_eq_true rfl) ?_
  intro p e s m below meth c ls C hnm R hl
  clear hnm
  have hx := C.1
  have hb := C.2.1
  have hl : lv_has ls 2 [(0, .ref a0), (1, .int p1)] := hl
  unfold F_Pairs_valueAt at hE
  refine lv_iload_n hx hb d_Pairs_valueAt_0 rfl (lv_at hl 1 rfl) ?_
  refine lv_if_lt (tgt := 30) hx hb d_Pairs_valueAt_1 (by decide) (fun hc => ?_) (fun hc => ?_)
  · replace hE := fw_if_t hc hE
    refine lv_bipush (v := -2) hx hb d_Pairs_valueAt_30 (by decide) ?_
    cases hE
    exact fw_iret C fw_X.rf rfl R d_Pairs_valueAt_32
  · replace hE := fw_if_f hc hE
    refine lv_iload_n hx hb d_Pairs_valueAt_4 rfl (lv_at hl 1 rfl) ?_
    refine lv_aload_n hx hb d_Pairs_valueAt_5 rfl (lv_at hl 0 rfl) ?_
    refine fw_get (v := .int (fw_g S0 a0 2)) C R ft_field_2_9 hk_a0 rfl d_Pairs_valueAt_6 ?_
    refine lv_icmp_ge (tgt := 30) hx hb d_Pairs_valueAt_9 (by decide) (fun hc => ?_) (fun hc => ?_)
    · replace hE := fw_if_t hc hE
      refine lv_bipush (v := -2) hx hb d_Pairs_valueAt_30 (by decide) ?_
      cases hE
      exact fw_iret C fw_X.rf rfl R d_Pairs_valueAt_32
    · replace hE := fw_if_f hc hE
      refine lv_iload_n hx hb d_Pairs_valueAt_12 rfl (lv_at hl 1 rfl) ?_
      refine lv_aload_n hx hb d_Pairs_valueAt_13 rfl (lv_at hl 0 rfl) ?_
      refine fw_getr C R ft_field_2_25 hk_a0 rfl rfl d_Pairs_valueAt_14 (fun hq => ?_) (fun b1 hq hk_b1 => ?_)
      · replace hE := fw_om_none hq hE
        cases hE
      · replace hE := fw_om_some hq hE
        refine fw_alen (K := 100) (ty := .int) C R (by decide) (by decide) hk_b1 d_Pairs_valueAt_17 ?_
        refine lv_icmp_ge (tgt := 30) hx hb d_Pairs_valueAt_18 (by decide) (fun hc => ?_) (fun hc => ?_)
        · replace hE := fw_if_t hc hE
          refine lv_bipush (v := -2) hx hb d_Pairs_valueAt_30 (by decide) ?_
          cases hE
          exact fw_iret C fw_X.rf rfl R d_Pairs_valueAt_32
        · replace hE := fw_if_f hc hE
          refine lv_aload_n hx hb d_Pairs_valueAt_21 rfl (lv_at hl 0 rfl) ?_
          refine fw_getr C R ft_field_2_25 hk_a0 rfl rfl d_Pairs_valueAt_22 (fun hq => ?_) (fun b2 hq hk_b2 => ?_)
          · replace hE := fw_om_none hq hE
            refine lv_iload_n hx hb d_Pairs_valueAt_25 rfl (lv_at hl 1 rfl) ?_
            cases hE
          · replace hE := fw_om_some hq hE
            refine lv_iload_n hx hb d_Pairs_valueAt_25 rfl (lv_at hl 1 rfl) ?_
            obtain ⟨hi3, hE⟩ := fw_ifn hE
            refine fw_iald C R (by decide) hk_b2 hi3 d_Pairs_valueAt_26 ?_
            refine lv_goto (tgt := 32) hx hb d_Pairs_valueAt_27 (by decide) ?_
            cases hE
            exact fw_iret C fw_X.rf rfl R d_Pairs_valueAt_32
set_option maxHeartbeats 4000000 in
set_option maxRecDepth 100000 in
theorem ct_Pairs_clear (l : Launch) (G : fw_G) (kd0 : Nat → Option Nat) (S0 : fw_S) (a0 : Nat) (S' : fw_S) (hk_a0 : kd0 a0 = some 2) (hE : F_Pairs_clear a0 S0 = some S') : fw_M l G y_Pairs_clear prog_4_method_5_code 1 none 0 0 0 0 kd0 S0 ([.ref a0] : List Value) none S' (fun k => k = kd0) := by
  refine fw_start (by decide) (Nat.le_of_ble_eq_true rfl) ?_
  intro p e s m below meth c ls C hnm R hl
  clear hnm
  have hx := C.1
  have hb := C.2.1
  have hl : lv_has ls 1 [(0, .ref a0)] := hl
  unfold F_Pairs_clear at hE
  refine lv_aload_n hx hb d_Pairs_clear_0 rfl (lv_at hl 0 rfl) ?_
  refine lv_iconst (v := 0) hx hb d_Pairs_clear_1 (by decide) ?_
  refine fw_puti C R ft_field_2_9 rfl hk_a0 d_Pairs_clear_2 (fun H locs R => ?_)
  obtain ⟨S1, eS1, hE⟩ := fw_let_ex hE
  rw [← eS1] at R
  clear eS1
  cases hE
  exact fw_vret C fw_X.rf rfl R d_Pairs_clear_5
set_option maxHeartbeats 4000000 in
set_option maxRecDepth 100000 in
theorem ct_Request_addKey (l : Launch) (G : fw_G) (kd0 : Nat → Option Nat) (S0 : fw_S) (a0 : Nat) (p1 : Int32) (S' : fw_S) (hk_a0 : kd0 a0 = some 3) (hE : F_Request_addKey a0 p1 S0 = some S') : fw_M l G y_Request_addKey prog_5_method_2_code 3 none 0 0 0 0 kd0 S0 ([.ref a0, .int p1] : List Value) none S' (fun k => k = kd0) := by
  refine fw_start (by decide) (Nat.le_of_ble_eq_true rfl) ?_
  intro p e s m below meth c ls C hnm R hl
  clear hnm
  have hx := C.1
  have hb := C.2.1
  have hl : lv_has ls 3 [(0, .ref a0), (1, .int p1)] := hl
  have h_j36 : ∀ v0 : Nat, ∀ v1 : Int32, ∀ S0 : fw_S, kd0 v0 = some 3 → ∀ (H : Heap) (locs : List Loc) (ls : Array Slot), fw_R G kd0 S0 H locs → lv_has ls 3 [(0, .ref v0), (1, .int v1)] → F_Request_addKey_j36 v0 v1 S0 = some S' → W p l e { frames := 0, cells := 0, slots := 0, locals := 0 } s m ([.ref a0, .int p1] : List Value).toArray below meth c H locs 0 0 (MQ below (fw_Q G kd0 none S' (fun k => k = kd0)) ([.ref a0, .int p1] : List Value).toArray s 0 0 (fw_A G)) (F0 m 36 ls []) := by
    intro v0 v1 S0 hk_v0 H locs ls R hl hE
    unfold F_Request_addKey_j36 at hE
    refine lv_aload_n hx hb d_Request_addKey_36 rfl (lv_at hl 0 rfl) ?_
    refine fw_get (v := .int (fw_g S0 v0 5)) C R ft_field_3_9 hk_v0 rfl d_Request_addKey_37 ?_
    refine lv_if_lt (tgt := 75) hx hb d_Request_addKey_40 (by decide) (fun hc => ?_) (fun hc => ?_)
    · replace hE := fw_if_t hc hE
      cases hE
      exact fw_vret C fw_X.rf rfl R d_Request_addKey_75
    · replace hE := fw_if_f hc hE
      refine lv_aload_n hx hb d_Request_addKey_43 rfl (lv_at hl 0 rfl) ?_
      refine fw_get (v := .int (fw_g S0 v0 5)) C R ft_field_3_9 hk_v0 rfl d_Request_addKey_44 ?_
      refine lv_aload_n hx hb d_Request_addKey_47 rfl (lv_at hl 0 rfl) ?_
      refine fw_getr C R ft_field_3_77 hk_v0 rfl rfl d_Request_addKey_48 (fun hq => ?_) (fun b1 hq hk_b1 => ?_)
      · replace hE := fw_om_none hq hE
        cases hE
      · replace hE := fw_om_some hq hE
        refine fw_alen (K := 100) (ty := .int) C R (by decide) (by decide) hk_b1 d_Request_addKey_51 ?_
        refine lv_icmp_ge (tgt := 75) hx hb d_Request_addKey_52 (by decide) (fun hc => ?_) (fun hc => ?_)
        · replace hE := fw_if_t hc hE
          cases hE
          exact fw_vret C fw_X.rf rfl R d_Request_addKey_75
        · replace hE := fw_if_f hc hE
          refine lv_aload_n hx hb d_Request_addKey_55 rfl (lv_at hl 0 rfl) ?_
          refine fw_getr C R ft_field_3_77 hk_v0 rfl rfl d_Request_addKey_56 (fun hq => ?_) (fun b2 hq hk_b2 => ?_)
          · replace hE := fw_om_none hq hE
            refine lv_aload_n hx hb d_Request_addKey_59 rfl (lv_at hl 0 rfl) ?_
            refine fw_get (v := .int (fw_g S0 v0 5)) C R ft_field_3_9 hk_v0 rfl d_Request_addKey_60 ?_
            refine lv_iload_n hx hb d_Request_addKey_63 rfl (lv_at hl 1 rfl) ?_
            cases hE
          · replace hE := fw_om_some hq hE
            refine lv_aload_n hx hb d_Request_addKey_59 rfl (lv_at hl 0 rfl) ?_
            refine fw_get (v := .int (fw_g S0 v0 5)) C R ft_field_3_9 hk_v0 rfl d_Request_addKey_60 ?_
            refine lv_iload_n hx hb d_Request_addKey_63 rfl (lv_at hl 1 rfl) ?_
            obtain ⟨hi3, hE⟩ := fw_ifn hE
            refine fw_iast C R (by decide) hk_b2 hi3 d_Request_addKey_64 (fun H locs R => ?_)
            obtain ⟨S4, eS4, hE⟩ := fw_let_ex hE
            rw [← eS4] at R
            clear eS4
            refine lv_aload_n hx hb d_Request_addKey_65 rfl (lv_at hl 0 rfl) ?_
            refine lv_dup hx hb d_Request_addKey_66 rfl ?_
            refine fw_get (v := .int (fw_g S4 v0 5)) C R ft_field_3_9 hk_v0 rfl d_Request_addKey_67 ?_
            refine lv_iconst (v := 1) hx hb d_Request_addKey_70 (by decide) ?_
            refine lv_iadd hx hb d_Request_addKey_71 ?_
            refine fw_puti C R ft_field_3_9 rfl hk_v0 d_Request_addKey_72 (fun H locs R => ?_)
            obtain ⟨S5, eS5, hE⟩ := fw_let_ex hE
            rw [← eS5] at R
            clear eS5
            cases hE
            exact fw_vret C fw_X.rf rfl R d_Request_addKey_75
  have h_l2 : ∀ (n : Nat), ∀ v0 : Nat, ∀ v1 : Int32, ∀ v2 : Int32, ∀ S0 : fw_S, kd0 v0 = some 3 → ∀ (H : Heap) (locs : List Loc) (ls : Array Slot), fw_R G kd0 S0 H locs → lv_has ls 3 [(0, .ref v0), (1, .int v1), (2, .int v2)] → F_Request_addKey_l2 n v0 v1 v2 S0 = some S' → W p l e { frames := 0, cells := 0, slots := 0, locals := 0 } s m ([.ref a0, .int p1] : List Value).toArray below meth c H locs 0 0 (MQ below (fw_Q G kd0 none S' (fun k => k = kd0)) ([.ref a0, .int p1] : List Value).toArray s 0 0 (fw_A G)) (F0 m 2 ls []) := by
    intro n
    induction n with
    | zero =>
      intro v0 v1 v2 S0 hk_v0 H locs ls R hl hE
      rw [F_Request_addKey_l2] at hE
      cases hE
    | succ n ih =>
      intro v0 v1 v2 S0 hk_v0 H locs ls R hl hE
      rw [F_Request_addKey_l2] at hE
      refine lv_iload_n hx hb d_Request_addKey_2 rfl (lv_at hl 2 rfl) ?_
      refine lv_aload_n hx hb d_Request_addKey_3 rfl (lv_at hl 0 rfl) ?_
      refine fw_get (v := .int (fw_g S0 v0 5)) C R ft_field_3_9 hk_v0 rfl d_Request_addKey_4 ?_
      refine lv_icmp_ge (tgt := 36) hx hb d_Request_addKey_7 (by decide) (fun hc => ?_) (fun hc => ?_)
      · replace hE := fw_if_t hc hE
        exact h_j36 _ _ _ hk_v0 _ _ _ R (lv_sub hl [0, 1] rfl) hE
      · replace hE := fw_if_f hc hE
        refine lv_iload_n hx hb d_Request_addKey_10 rfl (lv_at hl 2 rfl) ?_
        refine lv_aload_n hx hb d_Request_addKey_11 rfl (lv_at hl 0 rfl) ?_
        refine fw_getr C R ft_field_3_77 hk_v0 rfl rfl d_Request_addKey_12 (fun hq => ?_) (fun b6 hq hk_b6 => ?_)
        · replace hE := fw_om_none hq hE
          cases hE
        · replace hE := fw_om_some hq hE
          refine fw_alen (K := 100) (ty := .int) C R (by decide) (by decide) hk_b6 d_Request_addKey_15 ?_
          refine lv_icmp_ge (tgt := 36) hx hb d_Request_addKey_16 (by decide) (fun hc => ?_) (fun hc => ?_)
          · replace hE := fw_if_t hc hE
            exact h_j36 _ _ _ hk_v0 _ _ _ R (lv_sub hl [0, 1] rfl) hE
          · replace hE := fw_if_f hc hE
            refine lv_aload_n hx hb d_Request_addKey_19 rfl (lv_at hl 0 rfl) ?_
            refine fw_getr C R ft_field_3_77 hk_v0 rfl rfl d_Request_addKey_20 (fun hq => ?_) (fun b7 hq hk_b7 => ?_)
            · replace hE := fw_om_none hq hE
              refine lv_iload_n hx hb d_Request_addKey_23 rfl (lv_at hl 2 rfl) ?_
              cases hE
            · replace hE := fw_om_some hq hE
              refine lv_iload_n hx hb d_Request_addKey_23 rfl (lv_at hl 2 rfl) ?_
              obtain ⟨hi8, hE⟩ := fw_ifn hE
              refine fw_iald C R (by decide) hk_b7 hi8 d_Request_addKey_24 ?_
              refine lv_iload_n hx hb d_Request_addKey_25 rfl (lv_at hl 1 rfl) ?_
              refine lv_icmp_ne (tgt := 30) hx hb d_Request_addKey_26 (by decide) (fun hc => ?_) (fun hc => ?_)
              · replace hE := fw_if_t hc hE
                refine lv_iinc (v := (v2 + (1 : Int32))) (lv' := [(2, .int (v2 + (1 : Int32))), (0, .ref v0), (1, .int v1)]) hx hb d_Request_addKey_30 hl (k := 2) rfl rfl (by decide) rfl (fun ls hl => ?_)
                refine lv_goto (tgt := 2) hx hb d_Request_addKey_33 (by decide) ?_
                exact ih _ _ _ _ hk_v0 _ _ _ R (lv_sub hl [1, 2, 0] rfl) hE
              · replace hE := fw_if_f hc hE
                cases hE
                exact fw_vret C fw_X.rf rfl R d_Request_addKey_29
  unfold F_Request_addKey at hE
  refine lv_iconst (v := 0) hx hb d_Request_addKey_0 (by decide) ?_
  refine lv_istore_n (lv' := [(2, .int (0 : Int32)), (0, .ref a0), (1, .int p1)]) hx hb d_Request_addKey_1 rfl hl (by decide) rfl (fun ls hl => ?_)
  exact h_l2 _ _ _ _ _ hk_a0 _ _ _ R (lv_sub hl [1, 2, 0] rfl) hE
set_option maxHeartbeats 4000000 in
set_option maxRecDepth 100000 in
theorem ct_Request_hasKeysLeft (l : Launch) (G : fw_G) (kd0 : Nat → Option Nat) (S0 : fw_S) (a0 : Nat) (r0 : Int32) (hk_a0 : kd0 a0 = some 3) (hE : F_Request_hasKeysLeft a0 S0 = some r0) : fw_M l G y_Request_hasKeysLeft prog_5_method_3_code 1 (some .boolean) 0 0 0 0 kd0 S0 ([.ref a0] : List Value) (some (.int r0)) S0 (fun k => k = kd0) := by
  refine fw_start (by decide) (Nat.le_of_ble_eq_true rfl) ?_
  intro p e s m below meth c ls C hnm R hl
  clear hnm
  have hx := C.1
  have hb := C.2.1
  have hl : lv_has ls 1 [(0, .ref a0)] := hl
  unfold F_Request_hasKeysLeft at hE
  refine lv_aload_n hx hb d_Request_hasKeysLeft_0 rfl (lv_at hl 0 rfl) ?_
  refine fw_get (v := .int (fw_g S0 a0 6)) C R ft_field_3_15 hk_a0 rfl d_Request_hasKeysLeft_1 ?_
  refine lv_aload_n hx hb d_Request_hasKeysLeft_4 rfl (lv_at hl 0 rfl) ?_
  refine fw_get (v := .int (fw_g S0 a0 5)) C R ft_field_3_9 hk_a0 rfl d_Request_hasKeysLeft_5 ?_
  refine lv_icmp_ge (tgt := 15) hx hb d_Request_hasKeysLeft_8 (by decide) (fun hc => ?_) (fun hc => ?_)
  · replace hE := fw_if_t hc hE
    refine lv_iconst (v := 0) hx hb d_Request_hasKeysLeft_15 (by decide) ?_
    cases hE
    exact fw_zret C (by decide) fw_X.rf rfl R d_Request_hasKeysLeft_16
  · replace hE := fw_if_f hc hE
    refine lv_iconst (v := 1) hx hb d_Request_hasKeysLeft_11 (by decide) ?_
    refine lv_goto (tgt := 16) hx hb d_Request_hasKeysLeft_12 (by decide) ?_
    cases hE
    exact fw_zret C (by decide) fw_X.rf rfl R d_Request_hasKeysLeft_16
set_option maxHeartbeats 4000000 in
set_option maxRecDepth 100000 in
theorem ct_Request_nextStep (l : Launch) (G : fw_G) (kd0 : Nat → Option Nat) (S0 : fw_S) (a0 : Nat) (p1 : Int32) (S' : fw_S) (hk_a0 : kd0 a0 = some 3) (hE : F_Request_nextStep a0 p1 S0 = some S') : fw_M l G y_Request_nextStep prog_5_method_6_code 2 none 1 22 0 0 kd0 S0 ([.ref a0, .int p1] : List Value) none S' (fun k => k = kd0) := by
  refine fw_start (by decide) (Nat.le_of_ble_eq_true rfl) ?_
  intro p e s m below meth c ls C hnm R hl
  clear hnm
  have hx := C.1
  have hb := C.2.1
  have hl : lv_has ls 2 [(0, .ref a0), (1, .int p1)] := hl
  unfold F_Request_nextStep at hE
  refine lv_aload_n hx hb d_Request_nextStep_0 rfl (lv_at hl 0 rfl) ?_
  refine lv_aload_n hx hb d_Request_nextStep_1 rfl (lv_at hl 0 rfl) ?_
  refine fw_get (v := .int (fw_g S0 a0 11)) C R ft_field_3_37 hk_a0 rfl d_Request_nextStep_2 ?_
  refine lv_iconst (v := 1) hx hb d_Request_nextStep_5 (by decide) ?_
  refine lv_iadd hx hb d_Request_nextStep_6 ?_
  refine lv_sipush (v := 255) hx hb d_Request_nextStep_7 (by decide) ?_
  refine lv_iand hx hb d_Request_nextStep_10 ?_
  refine fw_puti C R ft_field_3_37 rfl hk_a0 d_Request_nextStep_11 (fun H locs R => ?_)
  obtain ⟨S1, eS1, hE⟩ := fw_let_ex hE
  rw [← eS1] at R
  clear eS1
  refine lv_aload_n hx hb d_Request_nextStep_14 rfl (lv_at hl 0 rfl) ?_
  refine fw_getr C R ft_field_3_33 hk_a0 rfl rfl d_Request_nextStep_15 (fun hq => ?_) (fun b2 hq hk_b2 => ?_)
  · replace hE := fw_om_none hq hE
    refine lv_iload_n hx hb d_Request_nextStep_18 rfl (lv_at hl 1 rfl) ?_
    refine lv_aload_n hx hb d_Request_nextStep_19 rfl (lv_at hl 0 rfl) ?_
    refine fw_get (v := .int (fw_g S1 a0 10)) C R ft_field_3_52 hk_a0 rfl d_Request_nextStep_20 ?_
    cases hE
  · replace hE := fw_om_some hq hE
    refine lv_iload_n hx hb d_Request_nextStep_18 rfl (lv_at hl 1 rfl) ?_
    refine lv_aload_n hx hb d_Request_nextStep_19 rfl (lv_at hl 0 rfl) ?_
    refine fw_get (v := .int (fw_g S1 a0 10)) C R ft_field_3_52 hk_a0 rfl d_Request_nextStep_20 ?_
    obtain ⟨S3, hF, hE⟩ := fw_bind hE
    refine fw_callV (As := [.int p1, .int (fw_g S1 a0 10)]) (rest := []) C R ft_callV_3_104 yi_Frame_begin ys_Frame_begin (ct_Frame_begin l G kd0 S1 _ _ _ _ hk_b2 hF) hk_b2 (by decide) rfl rfl hl.1 rfl (lv_room (Nat.le_of_ble_eq_true rfl)) ⟨Nat.le_of_ble_eq_true rfl, Nat.le_of_ble_eq_true rfl⟩ ⟨Nat.le_of_ble_eq_true rfl, Nat.le_of_ble_eq_true rfl⟩ d_Request_nextStep_23 (fun H locs kd4 hxkd4 hP R => ?_)
    rw [hP] at R; clear hP hxkd4
    refine lv_aload_n hx hb d_Request_nextStep_26 rfl (lv_at hl 0 rfl) ?_
    refine fw_getr C R ft_field_3_33 hk_a0 rfl rfl d_Request_nextStep_27 (fun hq => ?_) (fun b5 hq hk_b5 => ?_)
    · replace hE := fw_om_none hq hE
      refine lv_aload_n hx hb d_Request_nextStep_30 rfl (lv_at hl 0 rfl) ?_
      refine fw_get (v := .int (fw_g S3 a0 11)) C R ft_field_3_37 hk_a0 rfl d_Request_nextStep_31 ?_
      cases hE
    · replace hE := fw_om_some hq hE
      refine lv_aload_n hx hb d_Request_nextStep_30 rfl (lv_at hl 0 rfl) ?_
      refine fw_get (v := .int (fw_g S3 a0 11)) C R ft_field_3_37 hk_a0 rfl d_Request_nextStep_31 ?_
      obtain ⟨S6, hF, hE⟩ := fw_bind hE
      refine fw_callV (As := [.int (fw_g S3 a0 11)]) (rest := []) C R ft_callV_3_101 yi_Frame_put ys_Frame_put (ct_Frame_put l G kd0 S3 _ _ _ hk_b5 hF) hk_b5 (by decide) rfl rfl hl.1 rfl (lv_room (Nat.le_of_ble_eq_true rfl)) ⟨Nat.le_of_ble_eq_true rfl, Nat.le_of_ble_eq_true rfl⟩ ⟨Nat.le_of_ble_eq_true rfl, Nat.le_of_ble_eq_true rfl⟩ d_Request_nextStep_34 (fun H locs kd7 hxkd7 hP R => ?_)
      rw [hP] at R; clear hP hxkd7
      cases hE
      exact fw_vret C fw_X.rf rfl R d_Request_nextStep_37
set_option maxHeartbeats 4000000 in
set_option maxRecDepth 100000 in
theorem ct_Request_writeAsk (l : Launch) (G : fw_G) (kd0 : Nat → Option Nat) (S0 : fw_S) (a0 : Nat) (S' : fw_S) (hk_a0 : kd0 a0 = some 3) (hE : F_Request_writeAsk a0 S0 = some S') : fw_M l G y_Request_writeAsk prog_5_method_4_code 3 none 2 43 0 0 kd0 S0 ([.ref a0] : List Value) none S' (fun k => k = kd0) := by
  refine fw_start (by decide) (Nat.le_of_ble_eq_true rfl) ?_
  intro p e s m below meth c ls C hnm R hl
  clear hnm
  have hx := C.1
  have hb := C.2.1
  have hl : lv_has ls 3 [(0, .ref a0)] := hl
  have h_j63 : ∀ v0 : Nat, ∀ v1 : Int32, ∀ S0 : fw_S, kd0 v0 = some 3 → ∀ (H : Heap) (locs : List Loc) (ls : Array Slot), fw_R G kd0 S0 H locs → lv_has ls 3 [(0, .ref v0), (1, .int v1)] → F_Request_writeAsk_j63 v0 v1 S0 = some S' → W p l e { frames := 2, cells := 0, slots := 0, locals := 43 } s m ([.ref a0] : List Value).toArray below meth c H locs 0 0 (MQ below (fw_Q G kd0 none S' (fun k => k = kd0)) ([.ref a0] : List Value).toArray s 0 0 (fw_A G)) (F0 m 63 ls []) := by
    intro v0 v1 S0 hk_v0 H locs ls R hl hE
    unfold F_Request_writeAsk_j63 at hE
    refine lv_aload_n hx hb d_Request_writeAsk_63 rfl (lv_at hl 0 rfl) ?_
    refine lv_iload_n hx hb d_Request_writeAsk_64 rfl (lv_at hl 1 rfl) ?_
    refine fw_puti C R ft_field_3_15 rfl hk_v0 d_Request_writeAsk_65 (fun H locs R => ?_)
    obtain ⟨S6, eS6, hE⟩ := fw_let_ex hE
    rw [← eS6] at R
    clear eS6
    refine lv_aload_n hx hb d_Request_writeAsk_68 rfl (lv_at hl 0 rfl) ?_
    refine lv_iconst (v := 0) hx hb d_Request_writeAsk_69 (by decide) ?_
    refine fw_puti C R ft_field_3_27 rfl hk_v0 d_Request_writeAsk_70 (fun H locs R => ?_)
    obtain ⟨S7, eS7, hE⟩ := fw_let_ex hE
    rw [← eS7] at R
    clear eS7
    cases hE
    exact fw_vret C fw_X.rf rfl R d_Request_writeAsk_73
  have h_l39 : ∀ (n : Nat), ∀ v0 : Nat, ∀ v1 : Int32, ∀ v2 : Int32, ∀ S0 : fw_S, kd0 v0 = some 3 → ∀ (H : Heap) (locs : List Loc) (ls : Array Slot), fw_R G kd0 S0 H locs → lv_has ls 3 [(0, .ref v0), (1, .int v1), (2, .int v2)] → F_Request_writeAsk_l39 n v0 v1 v2 S0 = some S' → W p l e { frames := 2, cells := 0, slots := 0, locals := 43 } s m ([.ref a0] : List Value).toArray below meth c H locs 0 0 (MQ below (fw_Q G kd0 none S' (fun k => k = kd0)) ([.ref a0] : List Value).toArray s 0 0 (fw_A G)) (F0 m 39 ls []) := by
    intro n
    induction n with
    | zero =>
      intro v0 v1 v2 S0 hk_v0 H locs ls R hl hE
      rw [F_Request_writeAsk_l39] at hE
      cases hE
    | succ n ih =>
      intro v0 v1 v2 S0 hk_v0 H locs ls R hl hE
      rw [F_Request_writeAsk_l39] at hE
      refine lv_iload_n hx hb d_Request_writeAsk_39 rfl (lv_at hl 2 rfl) ?_
      refine lv_iload_n hx hb d_Request_writeAsk_40 rfl (lv_at hl 1 rfl) ?_
      refine lv_icmp_ge (tgt := 63) hx hb d_Request_writeAsk_41 (by decide) (fun hc => ?_) (fun hc => ?_)
      · replace hE := fw_if_t hc hE
        exact h_j63 _ _ _ hk_v0 _ _ _ R (lv_sub hl [0, 1] rfl) hE
      · replace hE := fw_if_f hc hE
        refine lv_aload_n hx hb d_Request_writeAsk_44 rfl (lv_at hl 0 rfl) ?_
        refine fw_getr C R ft_field_3_33 hk_v0 rfl rfl d_Request_writeAsk_45 (fun hq => ?_) (fun b8 hq hk_b8 => ?_)
        · replace hE := fw_om_none hq hE
          refine lv_aload_n hx hb d_Request_writeAsk_48 rfl (lv_at hl 0 rfl) ?_
          refine fw_getr C R ft_field_3_77 hk_v0 rfl rfl d_Request_writeAsk_49 (fun hq => ?_) (fun b9 hq hk_b9 => ?_)
          · replace hE := fw_om_none hq hE
            refine lv_iload_n hx hb d_Request_writeAsk_52 rfl (lv_at hl 2 rfl) ?_
            cases hE
          · replace hE := fw_om_some hq hE
            refine lv_iload_n hx hb d_Request_writeAsk_52 rfl (lv_at hl 2 rfl) ?_
            obtain ⟨hi10, hE⟩ := fw_ifn hE
            refine fw_iald C R (by decide) hk_b9 hi10 d_Request_writeAsk_53 ?_
            cases hE
        · replace hE := fw_om_some hq hE
          refine lv_aload_n hx hb d_Request_writeAsk_48 rfl (lv_at hl 0 rfl) ?_
          refine fw_getr C R ft_field_3_77 hk_v0 rfl rfl d_Request_writeAsk_49 (fun hq => ?_) (fun b11 hq hk_b11 => ?_)
          · replace hE := fw_om_none hq hE
            refine lv_iload_n hx hb d_Request_writeAsk_52 rfl (lv_at hl 2 rfl) ?_
            cases hE
          · replace hE := fw_om_some hq hE
            refine lv_iload_n hx hb d_Request_writeAsk_52 rfl (lv_at hl 2 rfl) ?_
            obtain ⟨hi12, hE⟩ := fw_ifn hE
            refine fw_iald C R (by decide) hk_b11 hi12 d_Request_writeAsk_53 ?_
            obtain ⟨S13, hF, hE⟩ := fw_bind hE
            refine fw_callV (As := [.int (fw_g S0 b11 v2.toNatClampNeg)]) (rest := []) C R ft_callV_3_101 yi_Frame_put ys_Frame_put (ct_Frame_put l G kd0 S0 _ _ _ hk_b8 hF) hk_b8 (by decide) rfl rfl hl.1 rfl (lv_room (Nat.le_of_ble_eq_true rfl)) ⟨Nat.le_of_ble_eq_true rfl, Nat.le_of_ble_eq_true rfl⟩ ⟨Nat.le_of_ble_eq_true rfl, Nat.le_of_ble_eq_true rfl⟩ d_Request_writeAsk_54 (fun H locs kd14 hxkd14 hP R => ?_)
            rw [hP] at R; clear hP hxkd14
            refine lv_iinc (v := (v2 + (1 : Int32))) (lv' := [(2, .int (v2 + (1 : Int32))), (0, .ref v0), (1, .int v1)]) hx hb d_Request_writeAsk_57 hl (k := 2) rfl rfl (by decide) rfl (fun ls hl => ?_)
            refine lv_goto (tgt := 39) hx hb d_Request_writeAsk_60 (by decide) ?_
            exact ih _ _ _ _ hk_v0 _ _ _ R (lv_sub hl [1, 2, 0] rfl) hE
  unfold F_Request_writeAsk at hE
  refine lv_aload_n hx hb d_Request_writeAsk_0 rfl (lv_at hl 0 rfl) ?_
  refine lv_iconst (v := 1) hx hb d_Request_writeAsk_1 (by decide) ?_
  obtain ⟨S1, hF, hE⟩ := fw_bind hE
  refine fw_callV (As := [.int (1 : Int32)]) (rest := []) C R ft_callV_3_95 yi_Request_nextStep ys_Request_nextStep (ct_Request_nextStep l G kd0 S0 _ _ _ hk_a0 hF) hk_a0 (by decide) rfl rfl hl.1 rfl (lv_room (Nat.le_of_ble_eq_true rfl)) ⟨Nat.le_of_ble_eq_true rfl, Nat.le_of_ble_eq_true rfl⟩ ⟨Nat.le_of_ble_eq_true rfl, Nat.le_of_ble_eq_true rfl⟩ d_Request_writeAsk_2 (fun H locs kd2 hxkd2 hP R => ?_)
  rw [hP] at R; clear hP hxkd2
  refine lv_aload_n hx hb d_Request_writeAsk_5 rfl (lv_at hl 0 rfl) ?_
  refine fw_get (v := .int (fw_g S1 a0 6)) C R ft_field_3_15 hk_a0 rfl d_Request_writeAsk_6 ?_
  refine lv_aload_n hx hb d_Request_writeAsk_9 rfl (lv_at hl 0 rfl) ?_
  refine fw_get (v := .int (fw_g S1 a0 2)) C R ft_field_3_62 hk_a0 rfl d_Request_writeAsk_10 ?_
  refine lv_iadd hx hb d_Request_writeAsk_13 ?_
  refine lv_aload_n hx hb d_Request_writeAsk_14 rfl (lv_at hl 0 rfl) ?_
  refine fw_get (v := .int (fw_g S1 a0 5)) C R ft_field_3_9 hk_a0 rfl d_Request_writeAsk_15 ?_
  refine fw_min C ft_min_3_98 mmin_1 mmin_2 mmin_3 hl.1 (Nat.le_of_ble_eq_true rfl) (Nat.le_of_ble_eq_true rfl) (Nat.le_of_ble_eq_true rfl) (Nat.le_of_ble_eq_true rfl) d_Request_writeAsk_18 ?_
  refine lv_aload_n hx hb d_Request_writeAsk_21 rfl (lv_at hl 0 rfl) ?_
  refine fw_getr C R ft_field_3_77 hk_a0 rfl rfl d_Request_writeAsk_22 (fun hq => ?_) (fun b3 hq hk_b3 => ?_)
  · replace hE := fw_om_none hq hE
    cases hE
  · replace hE := fw_om_some hq hE
    refine fw_alen (K := 100) (ty := .int) C R (by decide) (by decide) hk_b3 d_Request_writeAsk_25 ?_
    refine fw_min C ft_min_3_98 mmin_1 mmin_2 mmin_3 hl.1 (Nat.le_of_ble_eq_true rfl) (Nat.le_of_ble_eq_true rfl) (Nat.le_of_ble_eq_true rfl) (Nat.le_of_ble_eq_true rfl) d_Request_writeAsk_26 ?_
    refine lv_topi (fun x4 ex4 => ?_)
    replace hE := fw_let_use ex4 hE
    clear ex4
    refine lv_istore_n (lv' := [(1, .int x4), (0, .ref a0)]) hx hb d_Request_writeAsk_29 rfl hl (by decide) rfl (fun ls hl => ?_)
    refine lv_aload_n hx hb d_Request_writeAsk_30 rfl (lv_at hl 1 rfl) ?_
    refine fw_get (v := .int (fw_g S1 a0 6)) C R ft_field_3_15 hk_a0 rfl d_Request_writeAsk_31 ?_
    refine lv_iconst (v := 0) hx hb d_Request_writeAsk_34 (by decide) ?_
    refine fw_max C ft_max_3_71 mmax_1 mmax_2 mmax_3 hl.1 (Nat.le_of_ble_eq_true rfl) (Nat.le_of_ble_eq_true rfl) (Nat.le_of_ble_eq_true rfl) (Nat.le_of_ble_eq_true rfl) d_Request_writeAsk_35 ?_
    refine lv_topi (fun x5 ex5 => ?_)
    replace hE := fw_let_use ex5 hE
    clear ex5
    refine lv_istore_n (lv' := [(2, .int x5), (1, .int x4), (0, .ref a0)]) hx hb d_Request_writeAsk_38 rfl hl (by decide) rfl (fun ls hl => ?_)
    exact h_l39 _ _ _ _ _ hk_a0 _ _ _ R (lv_sub hl [2, 1, 0] rfl) hE
set_option maxHeartbeats 4000000 in
set_option maxRecDepth 100000 in
theorem ct_Request_writeMore (l : Launch) (G : fw_G) (kd0 : Nat → Option Nat) (S0 : fw_S) (a0 : Nat) (S' : fw_S) (hk_a0 : kd0 a0 = some 3) (hE : F_Request_writeMore a0 S0 = some S') : fw_M l G y_Request_writeMore prog_5_method_5_code 1 none 2 43 0 0 kd0 S0 ([.ref a0] : List Value) none S' (fun k => k = kd0) := by
  refine fw_start (by decide) (Nat.le_of_ble_eq_true rfl) ?_
  intro p e s m below meth c ls C hnm R hl
  clear hnm
  have hx := C.1
  have hb := C.2.1
  have hl : lv_has ls 1 [(0, .ref a0)] := hl
  unfold F_Request_writeMore at hE
  refine lv_aload_n hx hb d_Request_writeMore_0 rfl (lv_at hl 0 rfl) ?_
  refine lv_iconst (v := 3) hx hb d_Request_writeMore_1 (by decide) ?_
  obtain ⟨S1, hF, hE⟩ := fw_bind hE
  refine fw_callV (As := [.int (3 : Int32)]) (rest := []) C R ft_callV_3_95 yi_Request_nextStep ys_Request_nextStep (ct_Request_nextStep l G kd0 S0 _ _ _ hk_a0 hF) hk_a0 (by decide) rfl rfl hl.1 rfl (lv_room (Nat.le_of_ble_eq_true rfl)) ⟨Nat.le_of_ble_eq_true rfl, Nat.le_of_ble_eq_true rfl⟩ ⟨Nat.le_of_ble_eq_true rfl, Nat.le_of_ble_eq_true rfl⟩ d_Request_writeMore_2 (fun H locs kd2 hxkd2 hP R => ?_)
  rw [hP] at R; clear hP hxkd2
  refine lv_aload_n hx hb d_Request_writeMore_5 rfl (lv_at hl 0 rfl) ?_
  refine fw_getr C R ft_field_3_33 hk_a0 rfl rfl d_Request_writeMore_6 (fun hq => ?_) (fun b3 hq hk_b3 => ?_)
  · replace hE := fw_om_none hq hE
    refine lv_aload_n hx hb d_Request_writeMore_9 rfl (lv_at hl 0 rfl) ?_
    refine fw_get (v := .int (fw_g S1 a0 8)) C R ft_field_3_27 hk_a0 rfl d_Request_writeMore_10 ?_
    cases hE
  · replace hE := fw_om_some hq hE
    refine lv_aload_n hx hb d_Request_writeMore_9 rfl (lv_at hl 0 rfl) ?_
    refine fw_get (v := .int (fw_g S1 a0 8)) C R ft_field_3_27 hk_a0 rfl d_Request_writeMore_10 ?_
    obtain ⟨S4, hF, hE⟩ := fw_bind hE
    refine fw_callV (As := [.int (fw_g S1 a0 8)]) (rest := []) C R ft_callV_3_101 yi_Frame_put ys_Frame_put (ct_Frame_put l G kd0 S1 _ _ _ hk_b3 hF) hk_b3 (by decide) rfl rfl hl.1 rfl (lv_room (Nat.le_of_ble_eq_true rfl)) ⟨Nat.le_of_ble_eq_true rfl, Nat.le_of_ble_eq_true rfl⟩ ⟨Nat.le_of_ble_eq_true rfl, Nat.le_of_ble_eq_true rfl⟩ d_Request_writeMore_13 (fun H locs kd5 hxkd5 hP R => ?_)
    rw [hP] at R; clear hP hxkd5
    cases hE
    exact fw_vret C fw_X.rf rfl R d_Request_writeMore_16
set_option maxHeartbeats 4000000 in
set_option maxRecDepth 100000 in
theorem ct_Request_waitsFor (l : Launch) (G : fw_G) (kd0 : Nat → Option Nat) (S0 : fw_S) (a0 : Nat) (p1 : Nat) (p2 : Int32) (r0 : Int32) (hk_a0 : kd0 a0 = some 3) (hk_p1 : kd0 p1 = some 0) (hE : F_Request_waitsFor a0 p1 p2 S0 = some r0) : fw_M l G y_Request_waitsFor prog_5_method_7_code 3 (some .boolean) 1 21 0 0 kd0 S0 ([.ref a0, .ref p1, .int p2] : List Value) (some (.int r0)) S0 (fun k => k = kd0) := by
  refine fw_start (by decide) (Nat.le_of_ble_eq_true rfl) ?_
  intro p e s m below meth c ls C hnm R hl
  clear hnm
  have hx := C.1
  have hb := C.2.1
  have hl : lv_has ls 3 [(0, .ref a0), (1, .ref p1), (2, .int p2)] := hl
  unfold F_Request_waitsFor at hE
  refine lv_aload_n hx hb d_Request_waitsFor_0 rfl (lv_at hl 0 rfl) ?_
  refine fw_get (v := .int (fw_g S0 a0 14)) C R ft_field_3_46 hk_a0 rfl d_Request_waitsFor_1 ?_
  refine lv_if_ne (tgt := 47) hx hb d_Request_waitsFor_4 (by decide) (fun hc => ?_) (fun hc => ?_)
  · replace hE := fw_if_t hc hE
    refine lv_iconst (v := 0) hx hb d_Request_waitsFor_47 (by decide) ?_
    cases hE
    exact fw_zret C (by decide) fw_X.rf rfl R d_Request_waitsFor_48
  · replace hE := fw_if_f hc hE
    refine lv_aload_n hx hb d_Request_waitsFor_7 rfl (lv_at hl 0 rfl) ?_
    refine fw_get (v := .int (fw_g S0 a0 0)) C R ft_field_3_55 hk_a0 rfl d_Request_waitsFor_8 ?_
    refine lv_iload_n hx hb d_Request_waitsFor_11 rfl (lv_at hl 2 rfl) ?_
    refine lv_icmp_ne (tgt := 47) hx hb d_Request_waitsFor_12 (by decide) (fun hc => ?_) (fun hc => ?_)
    · replace hE := fw_if_t hc hE
      refine lv_iconst (v := 0) hx hb d_Request_waitsFor_47 (by decide) ?_
      cases hE
      exact fw_zret C (by decide) fw_X.rf rfl R d_Request_waitsFor_48
    · replace hE := fw_if_f hc hE
      refine lv_aload_n hx hb d_Request_waitsFor_15 rfl (lv_at hl 1 rfl) ?_
      refine lv_iconst (v := 0) hx hb d_Request_waitsFor_16 (by decide) ?_
      obtain ⟨x1, hF, hE⟩ := fw_bind hE
      refine fw_callV (As := [.int (0 : Int32)]) (rest := []) C R ft_callV_3_108 yi_Frame_byteAt ys_Frame_byteAt (ct_Frame_byteAt l G kd0 S0 _ _ _ hk_p1 hF) hk_p1 (by decide) rfl rfl hl.1 rfl (lv_room (Nat.le_of_ble_eq_true rfl)) ⟨Nat.le_of_ble_eq_true rfl, Nat.le_of_ble_eq_true rfl⟩ ⟨Nat.le_of_ble_eq_true rfl, Nat.le_of_ble_eq_true rfl⟩ d_Request_waitsFor_17 (fun H locs kd2 hxkd2 hP R => ?_)
      rw [hP] at R; clear hP hxkd2
      refine lv_aload_n hx hb d_Request_waitsFor_20 rfl (lv_at hl 0 rfl) ?_
      refine fw_get (v := .int (fw_g S0 a0 11)) C R ft_field_3_37 hk_a0 rfl d_Request_waitsFor_21 ?_
      refine lv_icmp_ne (tgt := 47) hx hb d_Request_waitsFor_24 (by decide) (fun hc => ?_) (fun hc => ?_)
      · replace hE := fw_if_t hc hE
        refine lv_iconst (v := 0) hx hb d_Request_waitsFor_47 (by decide) ?_
        cases hE
        exact fw_zret C (by decide) fw_X.rf rfl R d_Request_waitsFor_48
      · replace hE := fw_if_f hc hE
        refine lv_aload_n hx hb d_Request_waitsFor_27 rfl (lv_at hl 1 rfl) ?_
        refine fw_get (v := .int (fw_g S0 p1 0)) C R ft_field_3_111 hk_p1 rfl d_Request_waitsFor_28 ?_
        refine lv_iconst (v := 2) hx hb d_Request_waitsFor_31 (by decide) ?_
        refine lv_icmp_eq (tgt := 43) hx hb d_Request_waitsFor_32 (by decide) (fun hc => ?_) (fun hc => ?_)
        · replace hE := fw_if_t hc hE
          refine lv_iconst (v := 1) hx hb d_Request_waitsFor_43 (by decide) ?_
          refine lv_goto (tgt := 48) hx hb d_Request_waitsFor_44 (by decide) ?_
          cases hE
          exact fw_zret C (by decide) fw_X.rf rfl R d_Request_waitsFor_48
        · replace hE := fw_if_f hc hE
          refine lv_aload_n hx hb d_Request_waitsFor_35 rfl (lv_at hl 1 rfl) ?_
          refine fw_get (v := .int (fw_g S0 p1 0)) C R ft_field_3_111 hk_p1 rfl d_Request_waitsFor_36 ?_
          refine lv_iconst (v := 4) hx hb d_Request_waitsFor_39 (by decide) ?_
          refine lv_icmp_ne (tgt := 47) hx hb d_Request_waitsFor_40 (by decide) (fun hc => ?_) (fun hc => ?_)
          · replace hE := fw_if_t hc hE
            refine lv_iconst (v := 0) hx hb d_Request_waitsFor_47 (by decide) ?_
            cases hE
            exact fw_zret C (by decide) fw_X.rf rfl R d_Request_waitsFor_48
          · replace hE := fw_if_f hc hE
            refine lv_iconst (v := 1) hx hb d_Request_waitsFor_43 (by decide) ?_
            refine lv_goto (tgt := 48) hx hb d_Request_waitsFor_44 (by decide) ?_
            cases hE
            exact fw_zret C (by decide) fw_X.rf rfl R d_Request_waitsFor_48
set_option maxHeartbeats 4000000 in
set_option maxRecDepth 100000 in
theorem ct_Request_takeRows (l : Launch) (G : fw_G) (kd0 : Nat → Option Nat) (S0 : fw_S) (a0 : Nat) (p1 : Nat) (S' : fw_S) (hk_a0 : kd0 a0 = some 3) (hk_p1 : kd0 p1 = some 0) (hE : F_Request_takeRows a0 p1 S0 = some S') : fw_M l G y_Request_takeRows prog_5_method_8_code 3 none 1 22 0 0 kd0 S0 ([.ref a0, .ref p1] : List Value) none S' (fun k => k = kd0) := by
  refine fw_start (by decide) (Nat.le_of_ble_eq_true rfl) ?_
  intro p e s m below meth c ls C hnm R hl
  clear hnm
  have hx := C.1
  have hb := C.2.1
  have hl : lv_has ls 3 [(0, .ref a0), (1, .ref p1)] := hl
  have h_l2 : ∀ (n : Nat), ∀ v0 : Nat, ∀ v1 : Nat, ∀ v2 : Int32, ∀ S0 : fw_S, kd0 v0 = some 3 → kd0 v1 = some 0 → ∀ (H : Heap) (locs : List Loc) (ls : Array Slot), fw_R G kd0 S0 H locs → lv_has ls 3 [(0, .ref v0), (1, .ref v1), (2, .int v2)] → F_Request_takeRows_l2 n v0 v1 v2 S0 = some S' → W p l e { frames := 1, cells := 0, slots := 0, locals := 22 } s m ([.ref a0, .ref p1] : List Value).toArray below meth c H locs 0 0 (MQ below (fw_Q G kd0 none S' (fun k => k = kd0)) ([.ref a0, .ref p1] : List Value).toArray s 0 0 (fw_A G)) (F0 m 2 ls []) := by
    intro n
    induction n with
    | zero =>
      intro v0 v1 v2 S0 hk_v0 hk_v1 H locs ls R hl hE
      rw [F_Request_takeRows_l2] at hE
      cases hE
    | succ n ih =>
      intro v0 v1 v2 S0 hk_v0 hk_v1 H locs ls R hl hE
      rw [F_Request_takeRows_l2] at hE
      refine lv_iload_n hx hb d_Request_takeRows_2 rfl (lv_at hl 2 rfl) ?_
      refine lv_iconst (v := 1) hx hb d_Request_takeRows_3 (by decide) ?_
      refine lv_iadd hx hb d_Request_takeRows_4 ?_
      refine lv_aload_n hx hb d_Request_takeRows_5 rfl (lv_at hl 1 rfl) ?_
      refine fw_get (v := .int (fw_g S0 v1 2)) C R ft_field_3_114 hk_v1 rfl d_Request_takeRows_6 ?_
      refine lv_icmp_ge (tgt := 48) hx hb d_Request_takeRows_9 (by decide) (fun hc => ?_) (fun hc => ?_)
      · replace hE := fw_if_t hc hE
        cases hE
        exact fw_vret C fw_X.rf rfl R d_Request_takeRows_48
      · replace hE := fw_if_f hc hE
        refine lv_aload_n hx hb d_Request_takeRows_12 rfl (lv_at hl 0 rfl) ?_
        refine fw_getr C R ft_field_3_23 hk_v0 rfl rfl d_Request_takeRows_13 (fun hq => ?_) (fun b1 hq hk_b1 => ?_)
        · replace hE := fw_om_none hq hE
          refine lv_aload_n hx hb d_Request_takeRows_16 rfl (lv_at hl 1 rfl) ?_
          refine lv_iload_n hx hb d_Request_takeRows_17 rfl (lv_at hl 2 rfl) ?_
          obtain ⟨x2, hF, hE⟩ := fw_bind hE
          refine fw_callV (As := [.int v2]) (rest := [.null]) C R ft_callV_3_108 yi_Frame_byteAt ys_Frame_byteAt (ct_Frame_byteAt l G kd0 S0 _ _ _ hk_v1 hF) hk_v1 (by decide) rfl rfl hl.1 rfl (lv_room (Nat.le_of_ble_eq_true rfl)) ⟨Nat.le_of_ble_eq_true rfl, Nat.le_of_ble_eq_true rfl⟩ ⟨Nat.le_of_ble_eq_true rfl, Nat.le_of_ble_eq_true rfl⟩ d_Request_takeRows_18 (fun H locs kd3 hxkd3 hP R => ?_)
          rw [hP] at R; clear hP hxkd3
          refine lv_aload_n hx hb d_Request_takeRows_21 rfl (lv_at hl 1 rfl) ?_
          refine lv_iload_n hx hb d_Request_takeRows_22 rfl (lv_at hl 2 rfl) ?_
          refine lv_iconst (v := 1) hx hb d_Request_takeRows_23 (by decide) ?_
          refine lv_iadd hx hb d_Request_takeRows_24 ?_
          obtain ⟨x4, hF, hE⟩ := fw_bind hE
          refine fw_callV (As := [.int (v2 + (1 : Int32))]) (rest := [.int x2, .null]) C R ft_callV_3_108 yi_Frame_byteAt ys_Frame_byteAt (ct_Frame_byteAt l G kd0 S0 _ _ _ hk_v1 hF) hk_v1 (by decide) rfl rfl hl.1 rfl (lv_room (Nat.le_of_ble_eq_true rfl)) ⟨Nat.le_of_ble_eq_true rfl, Nat.le_of_ble_eq_true rfl⟩ ⟨Nat.le_of_ble_eq_true rfl, Nat.le_of_ble_eq_true rfl⟩ d_Request_takeRows_25 (fun H locs kd5 hxkd5 hP R => ?_)
          rw [hP] at R; clear hP hxkd5
          cases hE
        · replace hE := fw_om_some hq hE
          refine lv_aload_n hx hb d_Request_takeRows_16 rfl (lv_at hl 1 rfl) ?_
          refine lv_iload_n hx hb d_Request_takeRows_17 rfl (lv_at hl 2 rfl) ?_
          obtain ⟨x6, hF, hE⟩ := fw_bind hE
          refine fw_callV (As := [.int v2]) (rest := [.ref b1]) C R ft_callV_3_108 yi_Frame_byteAt ys_Frame_byteAt (ct_Frame_byteAt l G kd0 S0 _ _ _ hk_v1 hF) hk_v1 (by decide) rfl rfl hl.1 rfl (lv_room (Nat.le_of_ble_eq_true rfl)) ⟨Nat.le_of_ble_eq_true rfl, Nat.le_of_ble_eq_true rfl⟩ ⟨Nat.le_of_ble_eq_true rfl, Nat.le_of_ble_eq_true rfl⟩ d_Request_takeRows_18 (fun H locs kd7 hxkd7 hP R => ?_)
          rw [hP] at R; clear hP hxkd7
          refine lv_aload_n hx hb d_Request_takeRows_21 rfl (lv_at hl 1 rfl) ?_
          refine lv_iload_n hx hb d_Request_takeRows_22 rfl (lv_at hl 2 rfl) ?_
          refine lv_iconst (v := 1) hx hb d_Request_takeRows_23 (by decide) ?_
          refine lv_iadd hx hb d_Request_takeRows_24 ?_
          obtain ⟨x8, hF, hE⟩ := fw_bind hE
          refine fw_callV (As := [.int (v2 + (1 : Int32))]) (rest := [.int x6, .ref b1]) C R ft_callV_3_108 yi_Frame_byteAt ys_Frame_byteAt (ct_Frame_byteAt l G kd0 S0 _ _ _ hk_v1 hF) hk_v1 (by decide) rfl rfl hl.1 rfl (lv_room (Nat.le_of_ble_eq_true rfl)) ⟨Nat.le_of_ble_eq_true rfl, Nat.le_of_ble_eq_true rfl⟩ ⟨Nat.le_of_ble_eq_true rfl, Nat.le_of_ble_eq_true rfl⟩ d_Request_takeRows_25 (fun H locs kd9 hxkd9 hP R => ?_)
          rw [hP] at R; clear hP hxkd9
          obtain ⟨x11, S10, hF, hE⟩ := fw_b2_ex hE
          refine fw_callV (As := [.int x6, .int x8]) (rest := []) C R ft_callV_3_88 yi_Pairs_add ys_Pairs_add (ct_Pairs_add l G kd0 S0 _ _ _ _ _ hk_b1 hF) hk_b1 (by decide) rfl rfl hl.1 rfl (lv_room (Nat.le_of_ble_eq_true rfl)) ⟨Nat.le_of_ble_eq_true rfl, Nat.le_of_ble_eq_true rfl⟩ ⟨Nat.le_of_ble_eq_true rfl, Nat.le_of_ble_eq_true rfl⟩ d_Request_takeRows_28 (fun H locs kd12 hxkd12 hP R => ?_)
          rw [hP] at R; clear hP hxkd12
          refine lv_pop hx hb d_Request_takeRows_31 rfl ?_
          refine lv_aload_n hx hb d_Request_takeRows_32 rfl (lv_at hl 0 rfl) ?_
          refine lv_dup hx hb d_Request_takeRows_33 rfl ?_
          refine fw_get (v := .int (fw_g S10 v0 8)) C R ft_field_3_27 hk_v0 rfl d_Request_takeRows_34 ?_
          refine lv_iconst (v := 1) hx hb d_Request_takeRows_37 (by decide) ?_
          refine lv_iadd hx hb d_Request_takeRows_38 ?_
          refine fw_puti C R ft_field_3_27 rfl hk_v0 d_Request_takeRows_39 (fun H locs R => ?_)
          obtain ⟨S13, eS13, hE⟩ := fw_let_ex hE
          rw [← eS13] at R
          clear eS13
          refine lv_iinc (v := (v2 + (2 : Int32))) (lv' := [(2, .int (v2 + (2 : Int32))), (0, .ref v0), (1, .ref v1)]) hx hb d_Request_takeRows_42 hl (k := 2) rfl rfl (by decide) rfl (fun ls hl => ?_)
          refine lv_goto (tgt := 2) hx hb d_Request_takeRows_45 (by decide) ?_
          exact ih _ _ _ _ hk_v0 hk_v1 _ _ _ R (lv_sub hl [1, 2, 0] rfl) hE
  unfold F_Request_takeRows at hE
  refine lv_iconst (v := 2) hx hb d_Request_takeRows_0 (by decide) ?_
  refine lv_istore_n (lv' := [(2, .int (2 : Int32)), (0, .ref a0), (1, .ref p1)]) hx hb d_Request_takeRows_1 rfl hl (by decide) rfl (fun ls hl => ?_)
  exact h_l2 _ _ _ _ _ hk_a0 hk_p1 _ _ _ R (lv_sub hl [1, 2, 0] rfl) hE
set_option maxHeartbeats 4000000 in
set_option maxRecDepth 100000 in
theorem ct_Request_fail (l : Launch) (G : fw_G) (kd0 : Nat → Option Nat) (S0 : fw_S) (a0 : Nat) (p1 : Int32) (S' : fw_S) (hk_a0 : kd0 a0 = some 3) (hE : F_Request_fail a0 p1 S0 = some S') : fw_M l G y_Request_fail prog_5_method_9_code 2 none 1 20 0 0 kd0 S0 ([.ref a0, .int p1] : List Value) none S' (fun k => k = kd0) := by
  refine fw_start (by decide) (Nat.le_of_ble_eq_true rfl) ?_
  intro p e s m below meth c ls C hnm R hl
  clear hnm
  have hx := C.1
  have hb := C.2.1
  have hl : lv_has ls 2 [(0, .ref a0), (1, .int p1)] := hl
  unfold F_Request_fail at hE
  refine lv_aload_n hx hb d_Request_fail_0 rfl (lv_at hl 0 rfl) ?_
  refine lv_iload_n hx hb d_Request_fail_1 rfl (lv_at hl 1 rfl) ?_
  refine fw_puti C R ft_field_3_49 rfl hk_a0 d_Request_fail_2 (fun H locs R => ?_)
  obtain ⟨S1, eS1, hE⟩ := fw_let_ex hE
  rw [← eS1] at R
  clear eS1
  refine lv_aload_n hx hb d_Request_fail_5 rfl (lv_at hl 0 rfl) ?_
  refine fw_get (v := .int (fw_g S1 a0 1)) C R ft_field_3_58 hk_a0 rfl d_Request_fail_6 ?_
  refine lv_if_eq (tgt := 27) hx hb d_Request_fail_9 (by decide) (fun hc => ?_) (fun hc => ?_)
  · replace hE := fw_if_t hc hE
    refine lv_aload_n hx hb d_Request_fail_27 rfl (lv_at hl 0 rfl) ?_
    refine lv_iconst (v := 2) hx hb d_Request_fail_28 (by decide) ?_
    refine fw_puti C R ft_field_3_46 rfl hk_a0 d_Request_fail_29 (fun H locs R => ?_)
    obtain ⟨S2, eS2, hE⟩ := fw_let_ex hE
    rw [← eS2] at R
    clear eS2
    cases hE
    exact fw_vret C fw_X.rf rfl R d_Request_fail_32
  · replace hE := fw_if_f hc hE
    refine lv_aload_n hx hb d_Request_fail_12 rfl (lv_at hl 0 rfl) ?_
    refine lv_iconst (v := 1) hx hb d_Request_fail_13 (by decide) ?_
    refine fw_puti C R ft_field_3_46 rfl hk_a0 d_Request_fail_14 (fun H locs R => ?_)
    obtain ⟨S3, eS3, hE⟩ := fw_let_ex hE
    rw [← eS3] at R
    clear eS3
    refine lv_aload_n hx hb d_Request_fail_17 rfl (lv_at hl 0 rfl) ?_
    refine fw_getr C R ft_field_3_23 hk_a0 rfl rfl d_Request_fail_18 (fun hq => ?_) (fun b4 hq hk_b4 => ?_)
    · replace hE := fw_om_none hq hE
      cases hE
    · replace hE := fw_om_some hq hE
      obtain ⟨S5, hF, hE⟩ := fw_bind hE
      refine fw_callV (As := []) (rest := []) C R ft_callV_3_117 yi_Pairs_clear ys_Pairs_clear (ct_Pairs_clear l G kd0 S3 _ _ hk_b4 hF) hk_b4 (by decide) rfl rfl hl.1 rfl (lv_room (Nat.le_of_ble_eq_true rfl)) ⟨Nat.le_of_ble_eq_true rfl, Nat.le_of_ble_eq_true rfl⟩ ⟨Nat.le_of_ble_eq_true rfl, Nat.le_of_ble_eq_true rfl⟩ d_Request_fail_21 (fun H locs kd6 hxkd6 hP R => ?_)
      rw [hP] at R; clear hP hxkd6
      refine lv_goto (tgt := 32) hx hb d_Request_fail_24 (by decide) ?_
      cases hE
      exact fw_vret C fw_X.rf rfl R d_Request_fail_32
set_option maxHeartbeats 4000000 in
set_option maxRecDepth 100000 in
theorem ct_Request_joinedSize (l : Launch) (G : fw_G) (kd0 : Nat → Option Nat) (S0 : fw_S) (a0 : Nat) (r0 : Int32) (hk_a0 : kd0 a0 = some 3) (hE : F_Request_joinedSize a0 S0 = some r0) : fw_M l G y_Request_joinedSize prog_5_method_10_code 4 (some .int) 1 21 0 0 kd0 S0 ([.ref a0] : List Value) (some (.int r0)) S0 (fun k => k = kd0) := by
  refine fw_start (by decide) (Nat.le_of_ble_eq_true rfl) ?_
  intro p e s m below meth c ls C hnm R hl
  clear hnm
  have hx := C.1
  have hb := C.2.1
  have hl : lv_has ls 4 [(0, .ref a0)] := hl
  have h_l42 : ∀ (k29 : Nat → Int32 → Int32 → Option (Int32)), (∀ v0 : Nat, ∀ v1 : Int32, ∀ v2 : Int32, kd0 v0 = some 3 → ∀ (H : Heap) (locs : List Loc) (ls : Array Slot), fw_R G kd0 S0 H locs → lv_has ls 4 [(0, .ref v0), (1, .int v1), (2, .int v2)] → k29 v0 v1 v2 = some r0 → W p l e { frames := 1, cells := 0, slots := 0, locals := 21 } s m ([.ref a0] : List Value).toArray below meth c H locs 0 0 (MQ below (fw_Q G kd0 (some (.int r0)) S0 (fun k => k = kd0)) ([.ref a0] : List Value).toArray s 0 0 (fw_A G)) (F0 m 29 ls [])) → ∀ (n : Nat), ∀ v0 : Nat, ∀ v1 : Int32, ∀ v2 : Int32, ∀ v3 : Int32, kd0 v0 = some 3 → ∀ (H : Heap) (locs : List Loc) (ls : Array Slot), fw_R G kd0 S0 H locs → lv_has ls 4 [(0, .ref v0), (1, .int v1), (2, .int v2), (3, .int v3)] → F_Request_joinedSize_l42 S0 k29 n v0 v1 v2 v3 = some r0 → W p l e { frames := 1, cells := 0, slots := 0, locals := 21 } s m ([.ref a0] : List Value).toArray below meth c H locs 0 0 (MQ below (fw_Q G kd0 (some (.int r0)) S0 (fun k => k = kd0)) ([.ref a0] : List Value).toArray s 0 0 (fw_A G)) (F0 m 42 ls []) := by
    intro k29 hk29 n
    induction n with
    | zero =>
      intro v0 v1 v2 v3 hk_v0 H locs ls R hl hE
      rw [F_Request_joinedSize_l42] at hE
      cases hE
    | succ n ih =>
      intro v0 v1 v2 v3 hk_v0 H locs ls R hl hE
      rw [F_Request_joinedSize_l42] at hE
      refine lv_iload_n hx hb d_Request_joinedSize_42 rfl (lv_at hl 3 rfl) ?_
      refine lv_aload_n hx hb d_Request_joinedSize_43 rfl (lv_at hl 0 rfl) ?_
      refine fw_getr C R ft_field_3_23 hk_v0 rfl rfl d_Request_joinedSize_44 (fun hq => ?_) (fun b2 hq hk_b2 => ?_)
      · replace hE := fw_om_none hq hE
        cases hE
      · replace hE := fw_om_some hq hE
        refine fw_get (v := .int (fw_g S0 b2 2)) C R ft_field_3_65 hk_b2 rfl d_Request_joinedSize_47 ?_
        refine lv_icmp_ge (tgt := 81) hx hb d_Request_joinedSize_50 (by decide) (fun hc => ?_) (fun hc => ?_)
        · replace hE := fw_if_t hc hE
          refine lv_iinc (v := (v2 + (1 : Int32))) (lv' := [(2, .int (v2 + (1 : Int32))), (0, .ref v0), (1, .int v1), (3, .int v3)]) hx hb d_Request_joinedSize_81 hl (k := 2) rfl rfl (by decide) rfl (fun ls hl => ?_)
          refine lv_goto (tgt := 29) hx hb d_Request_joinedSize_84 (by decide) ?_
          exact hk29 _ _ _ hk_v0 _ _ _ R (lv_sub hl [1, 2, 0] rfl) hE
        · replace hE := fw_if_f hc hE
          refine lv_aload_n hx hb d_Request_joinedSize_53 rfl (lv_at hl 0 rfl) ?_
          refine fw_getr C R ft_field_3_23 hk_v0 rfl rfl d_Request_joinedSize_54 (fun hq => ?_) (fun b3 hq hk_b3 => ?_)
          · replace hE := fw_om_none hq hE
            refine lv_iload_n hx hb d_Request_joinedSize_57 rfl (lv_at hl 3 rfl) ?_
            cases hE
          · replace hE := fw_om_some hq hE
            refine lv_iload_n hx hb d_Request_joinedSize_57 rfl (lv_at hl 3 rfl) ?_
            obtain ⟨x4, hF, hE⟩ := fw_bind hE
            refine fw_callV (As := [.int v3]) (rest := []) C R ft_callV_3_81 yi_Pairs_keyAt ys_Pairs_keyAt (ct_Pairs_keyAt l G kd0 S0 _ _ _ hk_b3 hF) hk_b3 (by decide) rfl rfl hl.1 rfl (lv_room (Nat.le_of_ble_eq_true rfl)) ⟨Nat.le_of_ble_eq_true rfl, Nat.le_of_ble_eq_true rfl⟩ ⟨Nat.le_of_ble_eq_true rfl, Nat.le_of_ble_eq_true rfl⟩ d_Request_joinedSize_58 (fun H locs kd5 hxkd5 hP R => ?_)
            rw [hP] at R; clear hP hxkd5
            refine lv_aload_n hx hb d_Request_joinedSize_61 rfl (lv_at hl 0 rfl) ?_
            refine fw_getr C R ft_field_3_68 hk_v0 rfl rfl d_Request_joinedSize_62 (fun hq => ?_) (fun b6 hq hk_b6 => ?_)
            · replace hE := fw_om_none hq hE
              refine lv_iload_n hx hb d_Request_joinedSize_65 rfl (lv_at hl 2 rfl) ?_
              cases hE
            · replace hE := fw_om_some hq hE
              refine lv_iload_n hx hb d_Request_joinedSize_65 rfl (lv_at hl 2 rfl) ?_
              obtain ⟨x7, hF, hE⟩ := fw_bind hE
              refine fw_callV (As := [.int v2]) (rest := [.int x4]) C R ft_callV_3_81 yi_Pairs_keyAt ys_Pairs_keyAt (ct_Pairs_keyAt l G kd0 S0 _ _ _ hk_b6 hF) hk_b6 (by decide) rfl rfl hl.1 rfl (lv_room (Nat.le_of_ble_eq_true rfl)) ⟨Nat.le_of_ble_eq_true rfl, Nat.le_of_ble_eq_true rfl⟩ ⟨Nat.le_of_ble_eq_true rfl, Nat.le_of_ble_eq_true rfl⟩ d_Request_joinedSize_66 (fun H locs kd8 hxkd8 hP R => ?_)
              rw [hP] at R; clear hP hxkd8
              refine lv_icmp_ne (tgt := 75) hx hb d_Request_joinedSize_69 (by decide) (fun hc => ?_) (fun hc => ?_)
              · replace hE := fw_if_t hc hE
                refine lv_iinc (v := (v3 + (1 : Int32))) (lv' := [(3, .int (v3 + (1 : Int32))), (0, .ref v0), (1, .int v1), (2, .int v2)]) hx hb d_Request_joinedSize_75 hl (k := 3) rfl rfl (by decide) rfl (fun ls hl => ?_)
                refine lv_goto (tgt := 42) hx hb d_Request_joinedSize_78 (by decide) ?_
                exact ih _ _ _ _ hk_v0 _ _ _ R (lv_sub hl [1, 2, 3, 0] rfl) hE
              · replace hE := fw_if_f hc hE
                refine lv_iinc (v := (v1 + (1 : Int32))) (lv' := [(1, .int (v1 + (1 : Int32))), (0, .ref v0), (2, .int v2), (3, .int v3)]) hx hb d_Request_joinedSize_72 hl (k := 1) rfl rfl (by decide) rfl (fun ls hl => ?_)
                refine lv_iinc (v := (v3 + (1 : Int32))) (lv' := [(3, .int (v3 + (1 : Int32))), (1, .int (v1 + (1 : Int32))), (0, .ref v0), (2, .int v2)]) hx hb d_Request_joinedSize_75 hl (k := 3) rfl rfl (by decide) rfl (fun ls hl => ?_)
                refine lv_goto (tgt := 42) hx hb d_Request_joinedSize_78 (by decide) ?_
                exact ih _ _ _ _ hk_v0 _ _ _ R (lv_sub hl [2, 1, 3, 0] rfl) hE
  have h_l29 : ∀ (n : Nat), ∀ v0 : Nat, ∀ v1 : Int32, ∀ v2 : Int32, kd0 v0 = some 3 → ∀ (H : Heap) (locs : List Loc) (ls : Array Slot), fw_R G kd0 S0 H locs → lv_has ls 4 [(0, .ref v0), (1, .int v1), (2, .int v2)] → F_Request_joinedSize_l29 S0 n v0 v1 v2 = some r0 → W p l e { frames := 1, cells := 0, slots := 0, locals := 21 } s m ([.ref a0] : List Value).toArray below meth c H locs 0 0 (MQ below (fw_Q G kd0 (some (.int r0)) S0 (fun k => k = kd0)) ([.ref a0] : List Value).toArray s 0 0 (fw_A G)) (F0 m 29 ls []) := by
    intro n
    induction n with
    | zero =>
      intro v0 v1 v2 hk_v0 H locs ls R hl hE
      rw [F_Request_joinedSize_l29] at hE
      cases hE
    | succ n ih =>
      intro v0 v1 v2 hk_v0 H locs ls R hl hE
      rw [F_Request_joinedSize_l29] at hE
      refine lv_iload_n hx hb d_Request_joinedSize_29 rfl (lv_at hl 2 rfl) ?_
      refine lv_aload_n hx hb d_Request_joinedSize_30 rfl (lv_at hl 0 rfl) ?_
      refine fw_getr C R ft_field_3_68 hk_v0 rfl rfl d_Request_joinedSize_31 (fun hq => ?_) (fun b1 hq hk_b1 => ?_)
      · replace hE := fw_om_none hq hE
        cases hE
      · replace hE := fw_om_some hq hE
        refine fw_get (v := .int (fw_g S0 b1 2)) C R ft_field_3_65 hk_b1 rfl d_Request_joinedSize_34 ?_
        refine lv_icmp_ge (tgt := 87) hx hb d_Request_joinedSize_37 (by decide) (fun hc => ?_) (fun hc => ?_)
        · replace hE := fw_if_t hc hE
          refine lv_iload_n hx hb d_Request_joinedSize_87 rfl (lv_at hl 1 rfl) ?_
          cases hE
          exact fw_iret C fw_X.rf rfl R d_Request_joinedSize_88
        · replace hE := fw_if_f hc hE
          refine lv_iconst (v := 0) hx hb d_Request_joinedSize_40 (by decide) ?_
          refine lv_istore_n (lv' := [(3, .int (0 : Int32)), (0, .ref v0), (1, .int v1), (2, .int v2)]) hx hb d_Request_joinedSize_41 rfl hl (by decide) rfl (fun ls hl => ?_)
          exact h_l42 _ ih _ _ _ _ _ hk_v0 _ _ _ R (lv_sub hl [1, 2, 3, 0] rfl) hE
  unfold F_Request_joinedSize at hE
  refine lv_aload_n hx hb d_Request_joinedSize_0 rfl (lv_at hl 0 rfl) ?_
  refine fw_get (v := .int (fw_g S0 a0 14)) C R ft_field_3_46 hk_a0 rfl d_Request_joinedSize_1 ?_
  refine lv_iconst (v := 1) hx hb d_Request_joinedSize_4 (by decide) ?_
  refine lv_icmp_eq (tgt := 10) hx hb d_Request_joinedSize_5 (by decide) (fun hc => ?_) (fun hc => ?_)
  · replace hE := fw_if_t hc hE
    refine lv_aload_n hx hb d_Request_joinedSize_10 rfl (lv_at hl 0 rfl) ?_
    refine fw_get (v := .int (fw_g S0 a0 15)) C R ft_field_3_49 hk_a0 rfl d_Request_joinedSize_11 ?_
    refine lv_if_eq (tgt := 25) hx hb d_Request_joinedSize_14 (by decide) (fun hc => ?_) (fun hc => ?_)
    · replace hE := fw_if_t hc hE
      refine lv_iconst (v := 0) hx hb d_Request_joinedSize_25 (by decide) ?_
      refine lv_istore_n (lv' := [(1, .int (0 : Int32)), (0, .ref a0)]) hx hb d_Request_joinedSize_26 rfl hl (by decide) rfl (fun ls hl => ?_)
      refine lv_iconst (v := 0) hx hb d_Request_joinedSize_27 (by decide) ?_
      refine lv_istore_n (lv' := [(2, .int (0 : Int32)), (1, .int (0 : Int32)), (0, .ref a0)]) hx hb d_Request_joinedSize_28 rfl hl (by decide) rfl (fun ls hl => ?_)
      exact h_l29 _ _ _ _ hk_a0 _ _ _ R (lv_sub hl [2, 1, 0] rfl) hE
    · replace hE := fw_if_f hc hE
      refine lv_aload_n hx hb d_Request_joinedSize_17 rfl (lv_at hl 0 rfl) ?_
      refine fw_getr C R ft_field_3_68 hk_a0 rfl rfl d_Request_joinedSize_18 (fun hq => ?_) (fun b9 hq hk_b9 => ?_)
      · replace hE := fw_om_none hq hE
        cases hE
      · replace hE := fw_om_some hq hE
        refine fw_get (v := .int (fw_g S0 b9 2)) C R ft_field_3_65 hk_b9 rfl d_Request_joinedSize_21 ?_
        cases hE
        exact fw_iret C fw_X.rf rfl R d_Request_joinedSize_24
  · replace hE := fw_if_f hc hE
    refine lv_iconst (v := 0) hx hb d_Request_joinedSize_8 (by decide) ?_
    cases hE
    exact fw_iret C fw_X.rf rfl R d_Request_joinedSize_9
end
