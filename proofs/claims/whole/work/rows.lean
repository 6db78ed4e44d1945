section
-- ===== PART A: goes FIRST, ahead of the names: the tables' words, and 'selects' of the private methods out of them =====
/-- a private method of a class that the tables say can be made, by its rows of tables_1 -/
def lw_okq (q : MethodName × Nat) : Prop := (q.1.cls ≠ "java/lang/invoke/MethodHandle" ∧ q.1.cls ≠ "java/lang/invoke/VarHandle") ∧ Cond.instantiable q.1.cls q.2 ∈ tables_1 ∧ Cond.privateMethod q.1 ∈ tables_1 ∧ Cond.instanceMethod q.1 ∈ tables_1
theorem lw_p0 : lw_okq (⟨"FederationWire", "houseWire", "(I)LFederationWire$Wire;"⟩, 13) := ⟨⟨by decide +kernel, by decide +kernel⟩, List.mem_of_getElem? (i := 11) (by decide +kernel), List.mem_of_getElem? (i := 206) (by decide +kernel), List.mem_of_getElem? (i := 207) (by decide +kernel)⟩
theorem lw_p1 : lw_okq (⟨"FederationWire", "wireAt", "(I)LFederationWire$Wire;"⟩, 13) := ⟨⟨by decide +kernel, by decide +kernel⟩, List.mem_of_getElem? (i := 11) (by decide +kernel), List.mem_of_getElem? (i := 210) (by decide +kernel), List.mem_of_getElem? (i := 211) (by decide +kernel)⟩
theorem lw_p2 : lw_okq (⟨"FederationWire", "requestAt", "(I)LFederationWire$Request;"⟩, 13) := ⟨⟨by decide +kernel, by decide +kernel⟩, List.mem_of_getElem? (i := 11) (by decide +kernel), List.mem_of_getElem? (i := 214) (by decide +kernel), List.mem_of_getElem? (i := 215) (by decide +kernel)⟩
theorem lw_p3 : lw_okq (⟨"FederationWire", "sendFirst", "(LFederationWire$Request;LFederationWire$Wire;)Z"⟩, 13) := ⟨⟨by decide +kernel, by decide +kernel⟩, List.mem_of_getElem? (i := 11) (by decide +kernel), List.mem_of_getElem? (i := 218) (by decide +kernel), List.mem_of_getElem? (i := 219) (by decide +kernel)⟩
theorem lw_p4 : lw_okq (⟨"FederationWire", "send", "(LFederationWire$Frame;LFederationWire$Wire;)Z"⟩, 13) := ⟨⟨by decide +kernel, by decide +kernel⟩, List.mem_of_getElem? (i := 11) (by decide +kernel), List.mem_of_getElem? (i := 222) (by decide +kernel), List.mem_of_getElem? (i := 223) (by decide +kernel)⟩
theorem lw_p5 : lw_okq (⟨"FederationWire$Wire", "push", "(I)V"⟩, 7) := ⟨⟨by decide +kernel, by decide +kernel⟩, List.mem_of_getElem? (i := 127) (by decide +kernel), List.mem_of_getElem? (i := 230) (by decide +kernel), List.mem_of_getElem? (i := 231) (by decide +kernel)⟩
theorem lw_p6 : lw_okq (⟨"FederationWire$Request", "addKey", "(I)V"⟩, 16) := ⟨⟨by decide +kernel, by decide +kernel⟩, List.mem_of_getElem? (i := 272) (by decide +kernel), List.mem_of_getElem? (i := 292) (by decide +kernel), List.mem_of_getElem? (i := 293) (by decide +kernel)⟩
theorem lw_p7 : lw_okq (⟨"FederationWire$Request", "nextStep", "(I)V"⟩, 16) := ⟨⟨by decide +kernel, by decide +kernel⟩, List.mem_of_getElem? (i := 272) (by decide +kernel), List.mem_of_getElem? (i := 366) (by decide +kernel), List.mem_of_getElem? (i := 367) (by decide +kernel)⟩
theorem lw_p8 : lw_okq (⟨"FederationWire", "take", "(ILFederationWire$Wire;I)I"⟩, 13) := ⟨⟨by decide +kernel, by decide +kernel⟩, List.mem_of_getElem? (i := 11) (by decide +kernel), List.mem_of_getElem? (i := 385) (by decide +kernel), List.mem_of_getElem? (i := 386) (by decide +kernel)⟩
theorem lw_p9 : lw_okq (⟨"FederationWire$Wire", "suits", "(I)Z"⟩, 7) := ⟨⟨by decide +kernel, by decide +kernel⟩, List.mem_of_getElem? (i := 127) (by decide +kernel), List.mem_of_getElem? (i := 393) (by decide +kernel), List.mem_of_getElem? (i := 394) (by decide +kernel)⟩
theorem lw_p10 : lw_okq (⟨"FederationWire$Wire", "lengthSuits", "(I)Z"⟩, 7) := ⟨⟨by decide +kernel, by decide +kernel⟩, List.mem_of_getElem? (i := 127) (by decide +kernel), List.mem_of_getElem? (i := 397) (by decide +kernel), List.mem_of_getElem? (i := 398) (by decide +kernel)⟩
theorem lw_p11 : lw_okq (⟨"FederationWire$Wire", "keep", "(I)V"⟩, 7) := ⟨⟨by decide +kernel, by decide +kernel⟩, List.mem_of_getElem? (i := 127) (by decide +kernel), List.mem_of_getElem? (i := 401) (by decide +kernel), List.mem_of_getElem? (i := 402) (by decide +kernel)⟩
theorem lw_p12 : lw_okq (⟨"FederationWire", "serve", "(LFederationWire$Frame;LFederationWire$Wire;)Z"⟩, 13) := ⟨⟨by decide +kernel, by decide +kernel⟩, List.mem_of_getElem? (i := 11) (by decide +kernel), List.mem_of_getElem? (i := 407) (by decide +kernel), List.mem_of_getElem? (i := 408) (by decide +kernel)⟩
theorem lw_p13 : lw_okq (⟨"FederationWire$ServingEnd", "placeOf", "(I)I"⟩, 5) := ⟨⟨by decide +kernel, by decide +kernel⟩, List.mem_of_getElem? (i := 46) (by decide +kernel), List.mem_of_getElem? (i := 415) (by decide +kernel), List.mem_of_getElem? (i := 416) (by decide +kernel)⟩
theorem lw_p14 : lw_okq (⟨"FederationWire$ServingEnd", "memoryAt", "(I)LFederationWire$Memory;"⟩, 5) := ⟨⟨by decide +kernel, by decide +kernel⟩, List.mem_of_getElem? (i := 46) (by decide +kernel), List.mem_of_getElem? (i := 419) (by decide +kernel), List.mem_of_getElem? (i := 420) (by decide +kernel)⟩
theorem lw_p15 : lw_okq (⟨"FederationWire$ServingEnd", "memoryFor", "(I)LFederationWire$Memory;"⟩, 5) := ⟨⟨by decide +kernel, by decide +kernel⟩, List.mem_of_getElem? (i := 46) (by decide +kernel), List.mem_of_getElem? (i := 424) (by decide +kernel), List.mem_of_getElem? (i := 425) (by decide +kernel)⟩
def lw_privs_1 : List (MethodName × Nat) := [(⟨"FederationWire", "houseWire", "(I)LFederationWire$Wire;"⟩, 13), (⟨"FederationWire", "wireAt", "(I)LFederationWire$Wire;"⟩, 13), (⟨"FederationWire", "requestAt", "(I)LFederationWire$Request;"⟩, 13), (⟨"FederationWire", "sendFirst", "(LFederationWire$Request;LFederationWire$Wire;)Z"⟩, 13), (⟨"FederationWire", "send", "(LFederationWire$Frame;LFederationWire$Wire;)Z"⟩, 13), (⟨"FederationWire$Wire", "push", "(I)V"⟩, 7), (⟨"FederationWire$Request", "addKey", "(I)V"⟩, 16), (⟨"FederationWire$Request", "nextStep", "(I)V"⟩, 16), (⟨"FederationWire", "take", "(ILFederationWire$Wire;I)I"⟩, 13), (⟨"FederationWire$Wire", "suits", "(I)Z"⟩, 7), (⟨"FederationWire$Wire", "lengthSuits", "(I)Z"⟩, 7), (⟨"FederationWire$Wire", "keep", "(I)V"⟩, 7), (⟨"FederationWire", "serve", "(LFederationWire$Frame;LFederationWire$Wire;)Z"⟩, 13), (⟨"FederationWire$ServingEnd", "placeOf", "(I)I"⟩, 5), (⟨"FederationWire$ServingEnd", "memoryAt", "(I)LFederationWire$Memory;"⟩, 5), (⟨"FederationWire$ServingEnd", "memoryFor", "(I)LFederationWire$Memory;"⟩, 5)]
theorem lw_r1 : ∀ q ∈ lw_privs_1, lw_okq q := List.forall_mem_cons.mpr ⟨lw_p0, List.forall_mem_cons.mpr ⟨lw_p1, List.forall_mem_cons.mpr ⟨lw_p2, List.forall_mem_cons.mpr ⟨lw_p3, List.forall_mem_cons.mpr ⟨lw_p4, List.forall_mem_cons.mpr ⟨lw_p5, List.forall_mem_cons.mpr ⟨lw_p6, List.forall_mem_cons.mpr ⟨lw_p7, List.forall_mem_cons.mpr ⟨lw_p8, List.forall_mem_cons.mpr ⟨lw_p9, List.forall_mem_cons.mpr ⟨lw_p10, List.forall_mem_cons.mpr ⟨lw_p11, List.forall_mem_cons.mpr ⟨lw_p12, List.forall_mem_cons.mpr ⟨lw_p13, List.forall_mem_cons.mpr ⟨lw_p14, List.forall_mem_cons.mpr ⟨lw_p15, fun _ h => absurd h List.not_mem_nil⟩⟩⟩⟩⟩⟩⟩⟩⟩⟩⟩⟩⟩⟩⟩⟩
theorem lw_p16 : lw_okq (⟨"FederationWire$ServingEnd", "remember", "(LFederationWire$Memory;LFederationWire$Frame;)V"⟩, 5) := ⟨⟨by decide +kernel, by decide +kernel⟩, List.mem_of_getElem? (i := 46) (by decide +kernel), List.mem_of_getElem? (i := 428) (by decide +kernel), List.mem_of_getElem? (i := 429) (by decide +kernel)⟩
theorem lw_p17 : lw_okq (⟨"FederationWire$ServingEnd", "writeRows", "(LFederationWire$Memory;II)V"⟩, 5) := ⟨⟨by decide +kernel, by decide +kernel⟩, List.mem_of_getElem? (i := 46) (by decide +kernel), List.mem_of_getElem? (i := 436) (by decide +kernel), List.mem_of_getElem? (i := 437) (by decide +kernel)⟩
theorem lw_p18 : lw_okq (⟨"FederationWire", "hear", "(LFederationWire$Frame;ILFederationWire$Wire;)Z"⟩, 13) := ⟨⟨by decide +kernel, by decide +kernel⟩, List.mem_of_getElem? (i := 11) (by decide +kernel), List.mem_of_getElem? (i := 447) (by decide +kernel), List.mem_of_getElem? (i := 448) (by decide +kernel)⟩
theorem lw_p19 : lw_okq (⟨"FederationWire", "learn", "(LFederationWire$Request;)V"⟩, 13) := ⟨⟨by decide +kernel, by decide +kernel⟩, List.mem_of_getElem? (i := 11) (by decide +kernel), List.mem_of_getElem? (i := 470) (by decide +kernel), List.mem_of_getElem? (i := 471) (by decide +kernel)⟩
theorem lw_p20 : lw_okq (⟨"FederationWire", "earliestDue", "()I"⟩, 13) := ⟨⟨by decide +kernel, by decide +kernel⟩, List.mem_of_getElem? (i := 11) (by decide +kernel), List.mem_of_getElem? (i := 492) (by decide +kernel), List.mem_of_getElem? (i := 493) (by decide +kernel)⟩
theorem lw_p21 : lw_okq (⟨"FederationWire", "settleDue", "()I"⟩, 13) := ⟨⟨by decide +kernel, by decide +kernel⟩, List.mem_of_getElem? (i := 11) (by decide +kernel), List.mem_of_getElem? (i := 497) (by decide +kernel), List.mem_of_getElem? (i := 498) (by decide +kernel)⟩
theorem lw_p22 : lw_okq (⟨"FederationWire", "repeat", "(LFederationWire$Request;)V"⟩, 13) := ⟨⟨by decide +kernel, by decide +kernel⟩, List.mem_of_getElem? (i := 11) (by decide +kernel), List.mem_of_getElem? (i := 501) (by decide +kernel), List.mem_of_getElem? (i := 502) (by decide +kernel)⟩
theorem lw_p23 : lw_okq (⟨"FederationWire$Request", "silentPart", "(IZ)I"⟩, 16) := ⟨⟨by decide +kernel, by decide +kernel⟩, List.mem_of_getElem? (i := 272) (by decide +kernel), List.mem_of_getElem? (i := 527) (by decide +kernel), List.mem_of_getElem? (i := 528) (by decide +kernel)⟩
theorem lw_p24 : lw_okq (⟨"FederationWireModel", "addKey", "(II)V"⟩, 51) := ⟨⟨by decide +kernel, by decide +kernel⟩, List.mem_of_getElem? (i := 547) (by decide +kernel), List.mem_of_getElem? (i := 722) (by decide +kernel), List.mem_of_getElem? (i := 723) (by decide +kernel)⟩
theorem lw_p25 : lw_okq (⟨"FederationWireModel", "askPart", "(I)V"⟩, 51) := ⟨⟨by decide +kernel, by decide +kernel⟩, List.mem_of_getElem? (i := 547) (by decide +kernel), List.mem_of_getElem? (i := 726) (by decide +kernel), List.mem_of_getElem? (i := 727) (by decide +kernel)⟩
theorem lw_p26 : lw_okq (⟨"FederationWireModel", "put", "(I)V"⟩, 51) := ⟨⟨by decide +kernel, by decide +kernel⟩, List.mem_of_getElem? (i := 547) (by decide +kernel), List.mem_of_getElem? (i := 730) (by decide +kernel), List.mem_of_getElem? (i := 731) (by decide +kernel)⟩
theorem lw_p27 : lw_okq (⟨"FederationWireModel", "keep", "(II)V"⟩, 51) := ⟨⟨by decide +kernel, by decide +kernel⟩, List.mem_of_getElem? (i := 547) (by decide +kernel), List.mem_of_getElem? (i := 734) (by decide +kernel), List.mem_of_getElem? (i := 735) (by decide +kernel)⟩
theorem lw_p28 : lw_okq (⟨"FederationWireModel", "sendLast", "(I)Z"⟩, 51) := ⟨⟨by decide +kernel, by decide +kernel⟩, List.mem_of_getElem? (i := 547) (by decide +kernel), List.mem_of_getElem? (i := 738) (by decide +kernel), List.mem_of_getElem? (i := 739) (by decide +kernel)⟩
theorem lw_p29 : lw_okq (⟨"FederationWireModel", "send", "(III)Z"⟩, 51) := ⟨⟨by decide +kernel, by decide +kernel⟩, List.mem_of_getElem? (i := 547) (by decide +kernel), List.mem_of_getElem? (i := 742) (by decide +kernel), List.mem_of_getElem? (i := 743) (by decide +kernel)⟩
theorem lw_p30 : lw_okq (⟨"FederationWireModel", "come", "(II)I"⟩, 51) := ⟨⟨by decide +kernel, by decide +kernel⟩, List.mem_of_getElem? (i := 547) (by decide +kernel), List.mem_of_getElem? (i := 754) (by decide +kernel), List.mem_of_getElem? (i := 755) (by decide +kernel)⟩
theorem lw_p31 : lw_okq (⟨"FederationWireModel", "fits", "(III)Z"⟩, 51) := ⟨⟨by decide +kernel, by decide +kernel⟩, List.mem_of_getElem? (i := 547) (by decide +kernel), List.mem_of_getElem? (i := 758) (by decide +kernel), List.mem_of_getElem? (i := 759) (by decide +kernel)⟩
def lw_privs_2 : List (MethodName × Nat) := [(⟨"FederationWire$ServingEnd", "remember", "(LFederationWire$Memory;LFederationWire$Frame;)V"⟩, 5), (⟨"FederationWire$ServingEnd", "writeRows", "(LFederationWire$Memory;II)V"⟩, 5), (⟨"FederationWire", "hear", "(LFederationWire$Frame;ILFederationWire$Wire;)Z"⟩, 13), (⟨"FederationWire", "learn", "(LFederationWire$Request;)V"⟩, 13), (⟨"FederationWire", "earliestDue", "()I"⟩, 13), (⟨"FederationWire", "settleDue", "()I"⟩, 13), (⟨"FederationWire", "repeat", "(LFederationWire$Request;)V"⟩, 13), (⟨"FederationWire$Request", "silentPart", "(IZ)I"⟩, 16), (⟨"FederationWireModel", "addKey", "(II)V"⟩, 51), (⟨"FederationWireModel", "askPart", "(I)V"⟩, 51), (⟨"FederationWireModel", "put", "(I)V"⟩, 51), (⟨"FederationWireModel", "keep", "(II)V"⟩, 51), (⟨"FederationWireModel", "sendLast", "(I)Z"⟩, 51), (⟨"FederationWireModel", "send", "(III)Z"⟩, 51), (⟨"FederationWireModel", "come", "(II)I"⟩, 51), (⟨"FederationWireModel", "fits", "(III)Z"⟩, 51)]
theorem lw_r2 : ∀ q ∈ lw_privs_2, lw_okq q := List.forall_mem_cons.mpr ⟨lw_p16, List.forall_mem_cons.mpr ⟨lw_p17, List.forall_mem_cons.mpr ⟨lw_p18, List.forall_mem_cons.mpr ⟨lw_p19, List.forall_mem_cons.mpr ⟨lw_p20, List.forall_mem_cons.mpr ⟨lw_p21, List.forall_mem_cons.mpr ⟨lw_p22, List.forall_mem_cons.mpr ⟨lw_p23, List.forall_mem_cons.mpr ⟨lw_p24, List.forall_mem_cons.mpr ⟨lw_p25, List.forall_mem_cons.mpr ⟨lw_p26, List.forall_mem_cons.mpr ⟨lw_p27, List.forall_mem_cons.mpr ⟨lw_p28, List.forall_mem_cons.mpr ⟨lw_p29, List.forall_mem_cons.mpr ⟨lw_p30, List.forall_mem_cons.mpr ⟨lw_p31, fun _ h => absurd h List.not_mem_nil⟩⟩⟩⟩⟩⟩⟩⟩⟩⟩⟩⟩⟩⟩⟩⟩
theorem lw_p32 : lw_okq (⟨"FederationWireModel", "end", "(I)V"⟩, 51) := ⟨⟨by decide +kernel, by decide +kernel⟩, List.mem_of_getElem? (i := 547) (by decide +kernel), List.mem_of_getElem? (i := 765) (by decide +kernel), List.mem_of_getElem? (i := 766) (by decide +kernel)⟩
theorem lw_p33 : lw_okq (⟨"FederationWireModel", "isServed", "(III)Z"⟩, 51) := ⟨⟨by decide +kernel, by decide +kernel⟩, List.mem_of_getElem? (i := 547) (by decide +kernel), List.mem_of_getElem? (i := 769) (by decide +kernel), List.mem_of_getElem? (i := 770) (by decide +kernel)⟩
theorem lw_p34 : lw_okq (⟨"FederationWireModel", "placeOf", "(I)I"⟩, 51) := ⟨⟨by decide +kernel, by decide +kernel⟩, List.mem_of_getElem? (i := 547) (by decide +kernel), List.mem_of_getElem? (i := 773) (by decide +kernel), List.mem_of_getElem? (i := 774) (by decide +kernel)⟩
theorem lw_p35 : lw_okq (⟨"FederationWireModel", "remember", "(II)V"⟩, 51) := ⟨⟨by decide +kernel, by decide +kernel⟩, List.mem_of_getElem? (i := 547) (by decide +kernel), List.mem_of_getElem? (i := 777) (by decide +kernel), List.mem_of_getElem? (i := 778) (by decide +kernel)⟩
theorem lw_p36 : lw_okq (⟨"FederationWireModel", "forget", "(I)V"⟩, 51) := ⟨⟨by decide +kernel, by decide +kernel⟩, List.mem_of_getElem? (i := 547) (by decide +kernel), List.mem_of_getElem? (i := 781) (by decide +kernel), List.mem_of_getElem? (i := 782) (by decide +kernel)⟩
theorem lw_p37 : lw_okq (⟨"FederationWireModel", "copy", "(II)V"⟩, 51) := ⟨⟨by decide +kernel, by decide +kernel⟩, List.mem_of_getElem? (i := 547) (by decide +kernel), List.mem_of_getElem? (i := 785) (by decide +kernel), List.mem_of_getElem? (i := 786) (by decide +kernel)⟩
theorem lw_p38 : lw_okq (⟨"FederationWireModel", "answer", "(IIII)V"⟩, 51) := ⟨⟨by decide +kernel, by decide +kernel⟩, List.mem_of_getElem? (i := 547) (by decide +kernel), List.mem_of_getElem? (i := 789) (by decide +kernel), List.mem_of_getElem? (i := 790) (by decide +kernel)⟩
theorem lw_p39 : lw_okq (⟨"FederationWireModel", "isDropped", "(IIII)Z"⟩, 51) := ⟨⟨by decide +kernel, by decide +kernel⟩, List.mem_of_getElem? (i := 547) (by decide +kernel), List.mem_of_getElem? (i := 793) (by decide +kernel), List.mem_of_getElem? (i := 794) (by decide +kernel)⟩
theorem lw_p40 : lw_okq (⟨"FederationWireModel", "fail", "(II)V"⟩, 51) := ⟨⟨by decide +kernel, by decide +kernel⟩, List.mem_of_getElem? (i := 547) (by decide +kernel), List.mem_of_getElem? (i := 797) (by decide +kernel), List.mem_of_getElem? (i := 798) (by decide +kernel)⟩
theorem lw_p41 : lw_okq (⟨"FederationWireModel", "finish", "(I)V"⟩, 51) := ⟨⟨by decide +kernel, by decide +kernel⟩, List.mem_of_getElem? (i := 547) (by decide +kernel), List.mem_of_getElem? (i := 801) (by decide +kernel), List.mem_of_getElem? (i := 802) (by decide +kernel)⟩
theorem lw_p42 : lw_okq (⟨"FederationWireModel", "takeOut", "(I)I"⟩, 51) := ⟨⟨by decide +kernel, by decide +kernel⟩, List.mem_of_getElem? (i := 547) (by decide +kernel), List.mem_of_getElem? (i := 809) (by decide +kernel), List.mem_of_getElem? (i := 810) (by decide +kernel)⟩
theorem lw_p43 : lw_okq (⟨"FederationWireModel", "joinedOnes", "(III)I"⟩, 51) := ⟨⟨by decide +kernel, by decide +kernel⟩, List.mem_of_getElem? (i := 547) (by decide +kernel), List.mem_of_getElem? (i := 833) (by decide +kernel), List.mem_of_getElem? (i := 834) (by decide +kernel)⟩
theorem lw_p44 : lw_okq (⟨"FederationWireModel", "isFailedSilently", "(I)Z"⟩, 51) := ⟨⟨by decide +kernel, by decide +kernel⟩, List.mem_of_getElem? (i := 547) (by decide +kernel), List.mem_of_getElem? (i := 837) (by decide +kernel), List.mem_of_getElem? (i := 838) (by decide +kernel)⟩
def lw_privs_3 : List (MethodName × Nat) := [(⟨"FederationWireModel", "end", "(I)V"⟩, 51), (⟨"FederationWireModel", "isServed", "(III)Z"⟩, 51), (⟨"FederationWireModel", "placeOf", "(I)I"⟩, 51), (⟨"FederationWireModel", "remember", "(II)V"⟩, 51), (⟨"FederationWireModel", "forget", "(I)V"⟩, 51), (⟨"FederationWireModel", "copy", "(II)V"⟩, 51), (⟨"FederationWireModel", "answer", "(IIII)V"⟩, 51), (⟨"FederationWireModel", "isDropped", "(IIII)Z"⟩, 51), (⟨"FederationWireModel", "fail", "(II)V"⟩, 51), (⟨"FederationWireModel", "finish", "(I)V"⟩, 51), (⟨"FederationWireModel", "takeOut", "(I)I"⟩, 51), (⟨"FederationWireModel", "joinedOnes", "(III)I"⟩, 51), (⟨"FederationWireModel", "isFailedSilently", "(I)Z"⟩, 51)]
theorem lw_r3 : ∀ q ∈ lw_privs_3, lw_okq q := List.forall_mem_cons.mpr ⟨lw_p32, List.forall_mem_cons.mpr ⟨lw_p33, List.forall_mem_cons.mpr ⟨lw_p34, List.forall_mem_cons.mpr ⟨lw_p35, List.forall_mem_cons.mpr ⟨lw_p36, List.forall_mem_cons.mpr ⟨lw_p37, List.forall_mem_cons.mpr ⟨lw_p38, List.forall_mem_cons.mpr ⟨lw_p39, List.forall_mem_cons.mpr ⟨lw_p40, List.forall_mem_cons.mpr ⟨lw_p41, List.forall_mem_cons.mpr ⟨lw_p42, List.forall_mem_cons.mpr ⟨lw_p43, List.forall_mem_cons.mpr ⟨lw_p44, fun _ h => absurd h List.not_mem_nil⟩⟩⟩⟩⟩⟩⟩⟩⟩⟩⟩⟩⟩
def lw_privs : List (MethodName × Nat) := lw_privs_1 ++ (lw_privs_2 ++ (lw_privs_3))
def lw_tbl : List Cond := k2_sels lw_privs ++ tables_1
theorem lw_privs_ok : ∀ q ∈ lw_privs, lw_okq q := by
  show ∀ q ∈ lw_privs_1 ++ (lw_privs_2 ++ (lw_privs_3)), lw_okq q
  exact List.forall_mem_append.mpr ⟨lw_r1, List.forall_mem_append.mpr ⟨lw_r2, lw_r3⟩⟩
end
section
/-! Names: classes, fields, kinds (by program, out of the listing). -/
def fT_0 : u_T := fun k => match k with
  | 0 => ("FederationWire$Frame", "kind", "I", false)
  | 1 => ("FederationWire$Frame", "number", "I", false)
  | 2 => ("FederationWire$Frame", "length", "I", false)
  | _ => ("FederationWire$Frame", "body", "[I", true)
def fY_0 : Nat → FieldType := fun k => match k with
  | 0 => .int
  | 1 => .int
  | 2 => .int
  | _ => (.array .int)
def fT_1 : u_T := fun k => match k with
  | 0 => ("FederationWire$Memory", "number", "I", false)
  | 1 => ("FederationWire$Memory", "askStep", "I", false)
  | 2 => ("FederationWire$Memory", "latestStep", "I", false)
  | _ => ("FederationWire$Memory", "rows", "LFederationWire$Pairs;", true)
def fY_1 : Nat → FieldType := fun k => match k with
  | 0 => .int
  | 1 => .int
  | 2 => .int
  | _ => (.object "FederationWire$Pairs")
def fT_2 : u_T := fun k => match k with
  | 0 => ("FederationWire$Pairs", "keys", "[I", true)
  | 1 => ("FederationWire$Pairs", "values", "[I", true)
  | _ => ("FederationWire$Pairs", "size", "I", false)
def fY_2 : Nat → FieldType := fun k => match k with
  | 0 => (.array .int)
  | 1 => (.array .int)
  | _ => .int
def fT_3 : u_T := fun k => match k with
  | 0 => ("FederationWire$Request", "house", "I", true)
  | 1 => ("FederationWire$Request", "silent", "Z", true)
  | 2 => ("FederationWire$Request", "partSize", "I", true)
  | 3 => ("FederationWire$Request", "bindings", "LFederationWire$Pairs;", true)
  | 4 => ("FederationWire$Request", "keys", "[I", true)
  | 5 => ("FederationWire$Request", "keyCount", "I", false)
  | 6 => ("FederationWire$Request", "keysAsked", "I", false)
  | 7 => ("FederationWire$Request", "rows", "LFederationWire$Pairs;", true)
  | 8 => ("FederationWire$Request", "rowsOfPart", "I", false)
  | 9 => ("FederationWire$Request", "latest", "LFederationWire$Frame;", true)
  | 10 => ("FederationWire$Request", "number", "I", true)
  | 11 => ("FederationWire$Request", "step", "I", false)
  | 12 => ("FederationWire$Request", "sentAt", "I", false)
  | 13 => ("FederationWire$Request", "repeats", "I", false)
  | 14 => ("FederationWire$Request", "state", "I", false)
  | _ => ("FederationWire$Request", "why", "I", false)
def fY_3 : Nat → FieldType := fun k => match k with
  | 0 => .int
  | 1 => .boolean
  | 2 => .int
  | 3 => (.object "FederationWire$Pairs")
  | 4 => (.array .int)
  | 5 => .int
  | 6 => .int
  | 7 => (.object "FederationWire$Pairs")
  | 8 => .int
  | 9 => (.object "FederationWire$Frame")
  | 10 => .int
  | 11 => .int
  | 12 => .int
  | 13 => .int
  | 14 => .int
  | _ => .int
def fT_4 : u_T := fun k => match k with
  | 0 => ("FederationWire$ServingEnd", "facts", "LFederationWire$Pairs;", true)
  | 1 => ("FederationWire$ServingEnd", "memories", "[LFederationWire$Memory;", true)
  | 2 => ("FederationWire$ServingEnd", "remembered", "I", false)
  | 3 => ("FederationWire$ServingEnd", "repeats", "I", false)
  | _ => ("FederationWire$ServingEnd", "answer", "LFederationWire$Frame;", true)
def fY_4 : Nat → FieldType := fun k => match k with
  | 0 => (.object "FederationWire$Pairs")
  | 1 => (.array (.object "FederationWire$Memory"))
  | 2 => .int
  | 3 => .int
  | _ => (.object "FederationWire$Frame")
def fT_5 : u_T := fun k => match k with
  | 0 => ("FederationWire$Wire", "live", "Z", false)
  | 1 => ("FederationWire$Wire", "outRow", "[I", true)
  | 2 => ("FederationWire$Wire", "outFirst", "I", false)
  | 3 => ("FederationWire$Wire", "outSize", "I", false)
  | 4 => ("FederationWire$Wire", "incoming", "LFederationWire$Frame;", true)
  | 5 => ("FederationWire$Wire", "came", "I", false)
  | _ => ("FederationWire$Wire", "announced", "I", false)
def fY_5 : Nat → FieldType := fun k => match k with
  | 0 => .boolean
  | 1 => (.array .int)
  | 2 => .int
  | 3 => .int
  | 4 => (.object "FederationWire$Frame")
  | 5 => .int
  | _ => .int
def fT_6 : u_T := fun k => match k with
  | 0 => ("FederationWire", "wires", "[LFederationWire$Wire;", true)
  | 1 => ("FederationWire", "requests", "[LFederationWire$Request;", true)
  | 2 => ("FederationWire", "requestCount", "I", false)
  | 3 => ("FederationWire", "nextBindings", "LFederationWire$Pairs;", true)
  | 4 => ("FederationWire", "servingEnd", "LFederationWire$ServingEnd;", true)
  | 5 => ("FederationWire", "estimates", "[I", true)
  | 6 => ("FederationWire", "estimated", "[Z", true)
  | 7 => ("FederationWire", "bulk", "I", false)
  | 8 => ("FederationWire", "patience", "I", false)
  | 9 => ("FederationWire", "retries", "I", false)
  | 10 => ("FederationWire", "clock", "I", false)
  | 11 => ("FederationWire", "dropped", "I", false)
  | _ => ("FederationWire", "lost", "I", false)
def fY_6 : Nat → FieldType := fun k => match k with
  | 0 => (.array (.object "FederationWire$Wire"))
  | 1 => (.array (.object "FederationWire$Request"))
  | 2 => .int
  | 3 => (.object "FederationWire$Pairs")
  | 4 => (.object "FederationWire$ServingEnd")
  | 5 => (.array .int)
  | 6 => (.array .boolean)
  | 7 => .int
  | 8 => .int
  | 9 => .int
  | 10 => .int
  | 11 => .int
  | _ => .int
def fT_7 : u_T := fun k => match k with
  | 0 => ("FederationWireModel", "isUp", "[Z", true)
  | 1 => ("FederationWireModel", "outs", "[I", true)
  | 2 => ("FederationWireModel", "outSizes", "[I", true)
  | 3 => ("FederationWireModel", "opens", "[I", true)
  | 4 => ("FederationWireModel", "openSizes", "[I", true)
  | 5 => ("FederationWireModel", "bulk", "I", false)
  | 6 => ("FederationWireModel", "patience", "I", false)
  | 7 => ("FederationWireModel", "retries", "I", false)
  | 8 => ("FederationWireModel", "clock", "I", false)
  | 9 => ("FederationWireModel", "dropped", "I", false)
  | 10 => ("FederationWireModel", "lost", "I", false)
  | 11 => ("FederationWireModel", "bindings", "I", false)
  | 12 => ("FederationWireModel", "nextKeys", "[I", true)
  | 13 => ("FederationWireModel", "nextTags", "[I", true)
  | 14 => ("FederationWireModel", "requests", "I", false)
  | 15 => ("FederationWireModel", "houses", "[I", true)
  | 16 => ("FederationWireModel", "isSilent", "[Z", true)
  | 17 => ("FederationWireModel", "states", "[I", true)
  | 18 => ("FederationWireModel", "whys", "[I", true)
  | 19 => ("FederationWireModel", "boundCounts", "[I", true)
  | 20 => ("FederationWireModel", "boundKeys", "[I", true)
  | 21 => ("FederationWireModel", "boundTags", "[I", true)
  | 22 => ("FederationWireModel", "keyCounts", "[I", true)
  | 23 => ("FederationWireModel", "keys", "[I", true)
  | 24 => ("FederationWireModel", "bulks", "[I", true)
  | 25 => ("FederationWireModel", "asked", "[I", true)
  | 26 => ("FederationWireModel", "rowCounts", "[I", true)
  | 27 => ("FederationWireModel", "rowKeys", "[I", true)
  | 28 => ("FederationWireModel", "rowValues", "[I", true)
  | 29 => ("FederationWireModel", "partRows", "[I", true)
  | 30 => ("FederationWireModel", "steps", "[I", true)
  | 31 => ("FederationWireModel", "repeats", "[I", true)
  | 32 => ("FederationWireModel", "sentAt", "[I", true)
  | 33 => ("FederationWireModel", "lastKinds", "[I", true)
  | 34 => ("FederationWireModel", "lastSizes", "[I", true)
  | 35 => ("FederationWireModel", "lastBytes", "[I", true)
  | 36 => ("FederationWireModel", "estimates", "[I", true)
  | 37 => ("FederationWireModel", "isEstimated", "[Z", true)
  | 38 => ("FederationWireModel", "facts", "I", false)
  | 39 => ("FederationWireModel", "factKeys", "[I", true)
  | 40 => ("FederationWireModel", "factValues", "[I", true)
  | 41 => ("FederationWireModel", "known", "I", false)
  | 42 => ("FederationWireModel", "doubles", "I", false)
  | 43 => ("FederationWireModel", "numbers", "[I", true)
  | 44 => ("FederationWireModel", "askSteps", "[I", true)
  | 45 => ("FederationWireModel", "lastSteps", "[I", true)
  | 46 => ("FederationWireModel", "foundCounts", "[I", true)
  | 47 => ("FederationWireModel", "foundKeys", "[I", true)
  | 48 => ("FederationWireModel", "foundValues", "[I", true)
  | 49 => ("FederationWireModel", "made", "I", false)
  | _ => ("FederationWireModel", "bytes", "[I", true)
def fY_7 : Nat → FieldType := fun k => match k with
  | 0 => (.array .boolean)
  | 1 => (.array .int)
  | 2 => (.array .int)
  | 3 => (.array .int)
  | 4 => (.array .int)
  | 5 => .int
  | 6 => .int
  | 7 => .int
  | 8 => .int
  | 9 => .int
  | 10 => .int
  | 11 => .int
  | 12 => (.array .int)
  | 13 => (.array .int)
  | 14 => .int
  | 15 => (.array .int)
  | 16 => (.array .boolean)
  | 17 => (.array .int)
  | 18 => (.array .int)
  | 19 => (.array .int)
  | 20 => (.array .int)
  | 21 => (.array .int)
  | 22 => (.array .int)
  | 23 => (.array .int)
  | 24 => (.array .int)
  | 25 => (.array .int)
  | 26 => (.array .int)
  | 27 => (.array .int)
  | 28 => (.array .int)
  | 29 => (.array .int)
  | 30 => (.array .int)
  | 31 => (.array .int)
  | 32 => (.array .int)
  | 33 => (.array .int)
  | 34 => (.array .int)
  | 35 => (.array .int)
  | 36 => (.array .int)
  | 37 => (.array .boolean)
  | 38 => .int
  | 39 => (.array .int)
  | 40 => (.array .int)
  | 41 => .int
  | 42 => .int
  | 43 => (.array .int)
  | 44 => (.array .int)
  | 45 => (.array .int)
  | 46 => (.array .int)
  | 47 => (.array .int)
  | 48 => (.array .int)
  | 49 => .int
  | _ => (.array .int)
def fw_ft : Nat → List (Option Nat) := fun K => match K with
  | 0 => [none, none, none, some 100]
  | 1 => [none, none, none, some 2]
  | 2 => [some 100, some 100, none]
  | 3 => [none, none, none, some 2, some 100, none, none, some 2, none, some 0, none, none, none, none, none, none]
  | 4 => [some 2, some 201, none, none, some 0]
  | 5 => [none, some 100, none, none, some 0, none, none]
  | 6 => [some 205, some 203, none, some 2, some 4, some 100, some 101, none, none, none, none, none, none]
  | 7 => [some 101, some 100, some 100, some 100, some 100, none, none, none, none, none, none, none, some 100, some 100, none, some 100, some 101, some 100, some 100, some 100, some 100, some 100, some 100, some 100, some 100, some 100, some 100, some 100, some 100, some 100, some 100, some 100, some 100, some 100, some 100, some 100, some 100, some 101, none, some 100, some 100, none, none, some 100, some 100, some 100, some 100, some 100, some 100, none, some 100]
  | _ => []
abbrev fw_cl : List vw_C := [("FederationWire$Frame", fT_0, 4), ("FederationWire$Memory", fT_1, 4), ("FederationWire$Pairs", fT_2, 3), ("FederationWire$Request", fT_3, 16), ("FederationWire$ServingEnd", fT_4, 5), ("FederationWire$Wire", fT_5, 7), ("FederationWire", fT_6, 13), ("FederationWireModel", fT_7, 51)]
abbrev fw_tys : List (Nat × FieldType) := [(100, .int), (101, .boolean), (201, .object "FederationWire$Memory"), (203, .object "FederationWire$Request"), (205, .object "FederationWire$Wire")]
abbrev fw_ao : List String := ["FederationWire$Memory", "FederationWire$Request", "FederationWire$Wire"]
def fw_isN : Cond → Bool
  | .fieldLinkNest .. => true
  | .methodLinkNest .. => true
  | _ => false
def fw_WS : List Cond := lw_tbl.filter goodWord
def fw_NS : List Cond := lw_tbl.filter fw_isN
theorem fw_tb {w : Cond} {i : Nat} (h : tables_1[i]? = some w) : w ∈ lw_tbl := List.mem_append_right _ (List.mem_of_getElem? h)
theorem fw_ts {w : Cond} (i : Nat) (h : (k2_sels lw_privs)[i]? = some w) : w ∈ lw_tbl := List.mem_append_left _ (List.mem_of_getElem? h)
theorem fw_in {w : Cond} (h : w ∈ lw_tbl) (hg : goodWord w = true) : w ∈ fw_WS := List.mem_filter.mpr ⟨h, hg⟩
theorem fw_inN {w : Cond} (h : w ∈ lw_tbl) (hg : fw_isN w = true) : w ∈ fw_NS := List.mem_filter.mpr ⟨h, hg⟩
theorem fw_WS_ok : ∀ w ∈ fw_WS, goodWord w = true := fun _ h => (List.mem_filter.mp h).2
theorem fw_NS_ok : ∀ w ∈ fw_NS, fw_isN w = true := fun _ h => (List.mem_filter.mp h).2
theorem fw_NS_in : ∀ w ∈ fw_NS, w ∈ lw_tbl := fun _ h => (List.mem_filter.mp h).1
theorem fw_WS_in : ∀ w ∈ fw_WS, w ∈ lw_tbl := fun _ h => (List.mem_filter.mp h).1
def fw_at (own : String) (idx : Nat) : Cond → Bool
  | .fieldLinkNest o i _ _ _ _ => o == own && i == idx
  | _ => false
theorem fw_noN (own : String) (idx : Nat) (h : lw_tbl.all (fun w => !fw_at own idx w) = true) : ∀ host Cn nm d, Cond.fieldLinkNest own idx Cn nm d host ∉ fw_NS := by
  intro host Cn nm d hm
  have h1 := List.all_eq_true.mp h _ (fw_NS_in _ hm)
  simp [fw_at] at h1
end
section
/-! An abstract store (ints, references, lengths, the next address), what it is on the heap, and the kit's rows over it. -/
abbrev fw_S : Type := (Nat → Nat → Int32) × (Nat → Nat → Option Nat) × (Nat → Nat) × Nat
def fw_g (S : fw_S) (a : Nat) : Nat → Int32 := S.1 a
def fw_r (S : fw_S) (a : Nat) : Nat → Option Nat := S.2.1 a
def fw_l (S : fw_S) (a : Nat) : Nat := S.2.2.1 a
def fw_z (S : fw_S) : Nat := S.2.2.2
def fw_wi (S : fw_S) (a k : Nat) (v : Int32) : fw_S := (va_up S.1 a (va_up (S.1 a) k v), S.2.1, S.2.2.1, S.2.2.2)
def fw_wr (S : fw_S) (a k : Nat) (v : Option Nat) : fw_S := (S.1, va_up S.2.1 a (va_up (S.2.1 a) k v), S.2.2.1, S.2.2.2)
def fw_nw (S : fw_S) (n : Nat) : fw_S := (va_up S.1 S.2.2.2 (fun _ => 0), va_up S.2.1 S.2.2.2 (fun _ => none), va_up S.2.2.1 S.2.2.2 n, S.2.2.2 + 1)
def fw_let {α β : Type} (a : α) (f : α → β) : β := f a
def fw_om {α β : Type} (o : Option α) (n : β) (f : α → β) : β := match o with
  | none => n
  | some a => f a
theorem fw_let_use {α β : Type} {a x : α} {f : α → β} {y : β} (hx : x = a) (h : fw_let a f = y) : f x = y := by subst hx; exact h
theorem fw_om_none {α β : Type} {o : Option α} {n y : β} {f : α → β} (ho : o = none) (h : fw_om o n f = y) : n = y := by subst ho; exact h
theorem fw_om_some {α β : Type} {o : Option α} {n y : β} {f : α → β} {a : α} (ho : o = some a) (h : fw_om o n f = y) : f a = y := by subst ho; exact h
theorem fw_if_t {β : Type} {c : Prop} [Decidable c] {a b y : β} (hc : c) (h : (if c then a else b) = y) : a = y := by rw [if_pos hc] at h; exact h
theorem fw_if_f {β : Type} {c : Prop} [Decidable c] {a b y : β} (hc : ¬ c) (h : (if c then a else b) = y) : b = y := by rw [if_neg hc] at h; exact h
theorem fw_bind {α β : Type} {o : Option α} {f : α → Option β} {y : β} (h : o.bind f = some y) : ∃ x, o = some x ∧ f x = some y := Option.bind_eq_some_iff.mp h
-- reads behind writes
theorem fw_g_wi (S : fw_S) (a k : Nat) (v : Int32) (b j : Nat) : fw_g (fw_wi S a k v) b j = if b = a ∧ j = k then v else fw_g S b j := by
  by_cases hb : b = a
  · subst hb
    by_cases hj : j = k
    · subst hj; simp [fw_g, fw_wi, va_up]
    · simp [fw_g, fw_wi, va_up, hj]
  · simp [fw_g, fw_wi, va_up, hb]
theorem fw_g_wi_ne {S : fw_S} {a k b : Nat} {v : Int32} (h : b ≠ a) : fw_g (fw_wi S a k v) b = fw_g S b := va_up_ne _ _ h
theorem fw_g_wi_self {S : fw_S} {a k : Nat} {v : Int32} : fw_g (fw_wi S a k v) a = va_up (fw_g S a) k v := va_up_self _ _ _
theorem fw_g_wr (S : fw_S) (a k : Nat) (v : Option Nat) (b : Nat) : fw_g (fw_wr S a k v) b = fw_g S b := rfl
theorem fw_r_wi (S : fw_S) (a k : Nat) (v : Int32) (b : Nat) : fw_r (fw_wi S a k v) b = fw_r S b := rfl
theorem fw_l_wi (S : fw_S) (a k : Nat) (v : Int32) (b : Nat) : fw_l (fw_wi S a k v) b = fw_l S b := rfl
theorem fw_z_wi (S : fw_S) (a k : Nat) (v : Int32) : fw_z (fw_wi S a k v) = fw_z S := rfl
theorem fw_l_wr (S : fw_S) (a k : Nat) (v : Option Nat) (b : Nat) : fw_l (fw_wr S a k v) b = fw_l S b := rfl
theorem fw_z_wr (S : fw_S) (a k : Nat) (v : Option Nat) : fw_z (fw_wr S a k v) = fw_z S := rfl
theorem fw_r_wr_ne {S : fw_S} {a k b : Nat} {v : Option Nat} (h : b ≠ a) : fw_r (fw_wr S a k v) b = fw_r S b := va_up_ne _ _ h
theorem fw_r_wr_self {S : fw_S} {a k : Nat} {v : Option Nat} : fw_r (fw_wr S a k v) a = va_up (fw_r S a) k v := va_up_self _ _ _
theorem fw_r_wr (S : fw_S) (a k : Nat) (v : Option Nat) (b j : Nat) : fw_r (fw_wr S a k v) b j = if b = a ∧ j = k then v else fw_r S b j := by
  by_cases hb : b = a
  · subst hb
    by_cases hj : j = k
    · subst hj; simp [fw_r, fw_wr, va_up]
    · simp [fw_r, fw_wr, va_up, hj]
  · simp [fw_r, fw_wr, va_up, hb]
theorem fw_g_nw_ne {S : fw_S} {n b : Nat} (h : b ≠ fw_z S) : fw_g (fw_nw S n) b = fw_g S b := va_up_ne _ _ h
theorem fw_r_nw_ne {S : fw_S} {n b : Nat} (h : b ≠ fw_z S) : fw_r (fw_nw S n) b = fw_r S b := va_up_ne _ _ h
theorem fw_l_nw_ne {S : fw_S} {n b : Nat} (h : b ≠ fw_z S) : fw_l (fw_nw S n) b = fw_l S b := va_up_ne _ _ h
theorem fw_g_nw_self {S : fw_S} {n : Nat} : fw_g (fw_nw S n) (fw_z S) = fun _ => 0 := va_up_self _ _ _
theorem fw_r_nw_self {S : fw_S} {n : Nat} : fw_r (fw_nw S n) (fw_z S) = fun _ => none := va_up_self _ _ _
theorem fw_l_nw_self {S : fw_S} {n : Nat} : fw_l (fw_nw S n) (fw_z S) = n := va_up_self _ _ _
theorem fw_z_nw (S : fw_S) (n : Nat) : fw_z (fw_nw S n) = fw_z S + 1 := rfl
-- cells: kind K < 100 an object of class K; 100 .. 199 an array of numbers; 200 + K an array of references to kind K
def fw_fv (K : Nat) (g : Nat → Int32) (r : Nat → Option Nat) (j : Nat) : Value := match (fw_ft K)[j]? with
  | some (some _) => va_rf (r j)
  | _ => .int (g j)
def fw_fl (K : Nat) (g : Nat → Int32) (r : Nat → Option Nat) : List Value := (List.range (fw_ft K).length).map (fw_fv K g r)
def fw_cell (tA : Nat → ClassId) (K n : Nat) (g : Nat → Int32) (r : Nat → Option Nat) : va_E := if K < 100 then .inr (K, fw_fl K g r) else if K < 200 then .inl (tA K, n, .inl g) else .inl (tA K, n, .inr (.inr (.inr (.inr r))))
def fw_rt (K k : Nat) : Option Nat := if K < 100 then ((fw_ft K)[k]?).bind id else if 200 ≤ K then some (K - 200) else none
def fw_W (kd : Nat → Option Nat) (S : fw_S) : Prop := ∀ (a K : Nat), kd a = some K → ∀ (k b : Nat), fw_r S a k = some b → ∀ K' : Nat, fw_rt K k = some K' → kd b = some K'
def fw_X (kd kd' : Nat → Option Nat) : Prop := ∀ (a K : Nat), kd a = some K → kd' a = some K
theorem fw_X.rf {kd : Nat → Option Nat} : fw_X kd kd := fun _ _ h => h
theorem fw_X.tr {k1 k2 k3 : Nat → Option Nat} (h : fw_X k1 k2) (h' : fw_X k2 k3) : fw_X k1 k3 := fun a K q => h' a K (h a K q)
theorem fw_fl_i {K k : Nat} {g : Nat → Int32} {r : Nat → Option Nat} {v : Int32} (hf : (fw_ft K)[k]? = some none) : (fw_fl K g r).set k (.int v) = fw_fl K (va_up g k v) r := by
  have hk : k < (fw_ft K).length := (List.getElem?_eq_some_iff.mp hf).1
  apply List.ext_getElem?
  intro j
  by_cases hj : j = k
  · subst hj
    rw [List.getElem?_set_self (by simp [fw_fl, hk])]
    have h1 : fw_fv K (va_up g j v) r j = .int v := by unfold fw_fv; rw [hf]; simp [va_up]
    simp only [fw_fl, List.getElem?_map, List.getElem?_range hk, Option.map_some, h1]
  · rw [List.getElem?_set_ne (Ne.symm hj)]
    simp only [fw_fl, List.getElem?_map]
    by_cases hl : j < (fw_ft K).length
    · simp [hl, fw_fv, va_up, hj]
    · simp [hl]
theorem fw_fl_r {K k K' : Nat} {g : Nat → Int32} {r : Nat → Option Nat} {v : Option Nat} (hf : (fw_ft K)[k]? = some (some K')) : (fw_fl K g r).set k (va_rf v) = fw_fl K g (va_up r k v) := by
  have hk : k < (fw_ft K).length := (List.getElem?_eq_some_iff.mp hf).1
  apply List.ext_getElem?
  intro j
  by_cases hj : j = k
  · subst hj
    rw [List.getElem?_set_self (by simp [fw_fl, hk])]
    have h1 : fw_fv K g (va_up r j v) j = va_rf v := by unfold fw_fv; rw [hf]; simp [va_up]
    simp only [fw_fl, List.getElem?_map, List.getElem?_range hk, Option.map_some, h1]
  · rw [List.getElem?_set_ne (Ne.symm hj)]
    simp only [fw_fl, List.getElem?_map]
    by_cases hl : j < (fw_ft K).length
    · simp [hl, fw_fv, va_up, hj]
    · simp [hl]
-- the context: classes and slots D, array classes tA, the heap at the start of the law
abbrev fw_G : Type := va_G × (Nat → ClassId) × Heap
def fw_A (G : fw_G) : Nat → Prop := fun q => G.2.2.size ≤ q
def fw_T (G : fw_G) : List (ClassId × FieldType) := fw_tys.map (fun q => (G.2.1 q.1, q.2))
def fw_K (G : fw_G) (U : State) : Prop := va_K G.1 fw_cl (fw_T G) U ∧ (∀ w ∈ fw_NS, va_Nw w U) ∧ ∀ C ∈ fw_ao, va_AO C U
theorem fw_K.moved {G : fw_G} {s U : State} (hW : s.WarmedH U.vm) (h : fw_K G s) : fw_K G U := by
  refine ⟨va_K.moved hW.alike h.1, fun w hw => ?_, fun C hC => va_AO.moved hW.alike (h.2.2 C hC)⟩
  have h1 := h.2.1 w hw
  have h2 := fw_NS_ok w hw
  cases w <;> first | exact va_Nw.warmF hW h1 | exact va_Nw.warmM hW h1 | (exact absurd h2 (by decide)) | cases h2
theorem fw_K.calling {G : fw_G} {U : State} {g : JFrame} {mk : MethodId} {a : Array Value} (h : fw_K G U) : fw_K G (U.calling g mk a) := by
  refine ⟨va_K.moved (u := U) (U := U.calling g mk a) (Vm.Alike.refl U.vm) h.1, fun w hw => ?_, fun C hC => va_AO.moved (u := U) (U := U.calling g mk a) (Vm.Alike.refl U.vm) (h.2.2 C hC)⟩
  have h2 := fw_NS_ok w hw
  have h1 := h.2.1 w hw
  cases w <;> first | exact va_Nw.same rfl (u := U) rfl h1 | cases h2
def fw_R (G : fw_G) (kd : Nat → Option Nat) (S : fw_S) (H : Heap) (locs : List Loc) : Prop :=
  (∀ (a K : Nat), kd a = some K → G.2.2.size ≤ a ∧ va_at G.1 fw_cl (a, fw_cell G.2.1 K (fw_l S a) (fw_g S a) (fw_r S a)) H) ∧ (∀ q : Nat, q < G.2.2.size → H[q]? = G.2.2[q]?) ∧ G.2.2.size ≤ H.size ∧ (∀ l ∈ locs, G.2.2.size ≤ l.base) ∧ H.size = fw_z S ∧ fw_W kd S
end
section
/-! The kit's rows over the abstract store. -/
def fw_C (G : fw_G) (own : String) (cc : ByteArray) (nL : Nat) (ret : Option FieldType) (p : Program) (s : State) (m : MethodId) (args : Array Value) (meth : Method) (c : Code) : Prop :=
  p.tables.exec = Jvm.exec ∧ c.code = cc ∧ c.maxLocals = nL ∧ s.vm.findClass own = some m.cls ∧ (∀ w ∈ fw_WS, w.before args s = true) ∧ meth.locks = false ∧ meth.sig.returnType = ret ∧ fw_K G s
-- a class of the tables
def fw_Cl (K : Nat) (Cn : String) (T : u_T) (N : Nat) : Prop :=
  fw_cl[K]? = some (Cn, T, N) ∧ (∀ w ∈ u_ws Cn T N, w ∈ fw_WS) ∧ N = (fw_ft K).length ∧ K < 100 ∧ (∃ ty0 : Nat → FieldType, ∀ j, j < N → parseFieldDescriptor (T j).2.2.1 = some (ty0 j)) ∧ (∀ a, a < N → ∀ b, b < N → a ≠ b → (T a).2.1 ≠ (T b).2.1) ∧ ∀ j, j < N → (T j).1 = Cn
-- a field's link: place idx of the pool of 'own' is field k of kind K, its type ty, final or not
def fw_F (own : String) (idx K k : Nat) (ty : FieldType) (fin : Bool) : Prop :=
  ∃ (Cn : String) (T : u_T) (N : Nat), fw_Cl K Cn T N ∧ k < N ∧ parseFieldDescriptor (T k).2.2.1 = some ty ∧ (T k).2.2.2 = fin ∧ (Cond.fieldLink own idx Cn (T k).2.1 (T k).2.2.1 ∈ fw_WS ∨ ∃ host, Cond.fieldLinkNest own idx Cn (T k).2.1 (T k).2.2.1 host ∈ fw_NS)
theorem fw_ifn {β : Type} {c : Prop} [Decidable c] {b : Option β} {y : β} (h : (if c then none else b) = some y) : ¬ c ∧ b = some y := by
  by_cases hc : c
  · rw [if_pos hc] at h; cases h
  · rw [if_neg hc] at h; exact ⟨hc, h⟩
theorem fw_ifp {β : Type} {c : Prop} [Decidable c] {b : Option β} {y : β} (h : (if c then b else none) = some y) : c ∧ b = some y := by
  by_cases hc : c
  · rw [if_pos hc] at h; exact ⟨hc, h⟩
  · rw [if_neg hc] at h; cases h
theorem fw_let_ex {α β : Type} {a : α} {f : α → β} {y : β} (h : fw_let a f = y) : ∃ x, x = a ∧ f x = y := ⟨a, rfl, h⟩
def fw_b2 {α β γ : Type} (o : Option (α × β)) (f : α → β → Option γ) : Option γ := match o with
  | none => none
  | some (x, s) => f x s
theorem fw_b2_ex {α β γ : Type} {o : Option (α × β)} {f : α → β → Option γ} {y : γ} (h : fw_b2 o f = some y) : ∃ x s, o = some (x, s) ∧ f x s = some y := by
  cases o with
  | none => cases h
  | some q => exact ⟨q.1, q.2, rfl, h⟩
theorem fw_tout {x : Int32} (lo hi : Int) (h : ∀ k : Int, lo ≤ k → k ≤ hi → x = Int32.ofInt k → False) : x.toInt < lo ∨ hi < x.toInt := by
  by_cases h1 : x.toInt < lo
  · exact Or.inl h1
  · by_cases h2 : hi < x.toInt
    · exact Or.inr h2
    · exact (h x.toInt (by omega) (by omega) (Int32.ofInt_toInt x).symm).elim
theorem fw_bd1 {n : Int32} {B : Nat} {b : Nat} (h : ¬ (n < 0 ∨ B < n.toNatClampNeg)) (hb : B * b ≤ 536870912 := by decide) : n.toNatClampNeg * b ≤ 536870912 := by
  have h1 : n.toNatClampNeg ≤ B := Nat.not_lt.mp (fun q => h (Or.inr q))
  exact Nat.le_trans (Nat.mul_le_mul_right b h1) hb
theorem fw_bd2 {n : Int32} {B s R : Nat} (h : ¬ (n < 0 ∨ B < n.toNatClampNeg)) (hb : s + B ≤ R) : s + n.toNatClampNeg ≤ R := by
  have h1 : n.toNatClampNeg ≤ B := Nat.not_lt.mp (fun q => h (Or.inr q))
  omega
theorem fw_bd3 {n : Int32} {B s : Nat} (h : ¬ (n < 0 ∨ B < n.toNatClampNeg)) : s + n.toNatClampNeg ≤ s + B := fw_bd2 h (Nat.le_refl _)
theorem fw_R.put {G : fw_G} {kd : Nat → Option Nat} {S S' : fw_S} {H H1 : Heap} {locs : List Loc} {a K i : Nat} (Rr : fw_R G kd S H locs) (hk : kd a = some K) (z : H1.size = H.size) (oq : ∀ q : Nat, q ≠ a → H1[q]? = H[q]?)
    (hS' : ∀ b, b ≠ a → fw_l S' b = fw_l S b ∧ fw_g S' b = fw_g S b ∧ fw_r S' b = fw_r S b) (hz : fw_z S' = fw_z S) (hW : fw_W kd S') (hat : va_at G.1 fw_cl (a, fw_cell G.2.1 K (fw_l S' a) (fw_g S' a) (fw_r S' a)) H1) : fw_R G kd S' H1 (locs ++ [⟨a, i⟩]) := by
  obtain ⟨r1, r2, r3, r4, r5, r6⟩ := Rr
  have hga := (r1 a K hk).1
  refine ⟨fun b K' hb => ?_, fun q hq => ?_, by rw [z]; exact r3, fun q hq => ?_, by rw [z, hz]; exact r5, hW⟩
  · by_cases hba : b = a
    · subst hba
      cases hk.symm.trans hb
      exact ⟨hga, hat⟩
    · obtain ⟨e1, e2, e3⟩ := hS' b hba
      rw [e1, e2, e3]
      exact ⟨(r1 b K' hb).1, (r1 b K' hb).2.kept (oq b hba)⟩
  · rw [oq q (by omega)]; exact r2 q hq
  · rcases List.mem_append.mp hq with h | h
    · exact r4 q h
    · rw [List.mem_singleton.mp h]; exact hga
theorem fw_W.wi {kd : Nat → Option Nat} {S : fw_S} {a k : Nat} {v : Int32} (h : fw_W kd S) : fw_W kd (fw_wi S a k v) := h
theorem fw_W.wr {kd : Nat → Option Nat} {S : fw_S} {a k K : Nat} {v : Option Nat} (h : fw_W kd S) (hk : kd a = some K) (hv : ∀ b, v = some b → ∀ K', fw_rt K k = some K' → kd b = some K') : fw_W kd (fw_wr S a k v) := by
  intro b Kb hb j x hx K' hK'
  rw [fw_r_wr] at hx
  by_cases hc : b = a ∧ j = k
  · rw [if_pos hc] at hx
    obtain ⟨rfl, rfl⟩ := hc
    cases hk.symm.trans hb
    exact hv x hx K' hK'
  · rw [if_neg hc] at hx
    exact h b Kb hb j x hx K' hK'
section FWR
variable {p : Program} {l : Launch} {e : Env} {Rm : Room} {s : State} {m : MethodId} {args : Array Value} {below : List Frame} {meth : Method} {c : Code} {H : Heap} {locs : List Loc} {cells slots : Nat} {Q : State → Prop} {G : fw_G} {own : String} {cc : ByteArray} {nL : Nat} {ret : Option FieldType} {kd : Nat → Option Nat} {S : fw_S} {pc : Nat} {ls : Array Slot} {rest : List Value} {a : Nat}
theorem fw_get (C : fw_C G own cc nL ret p s m args meth c) (Rr : fw_R G kd S H locs) {K k idx : Nat} {ty : FieldType} {fin : Bool} (F : fw_F own idx K k ty fin) (hk : kd a = some K) {v : Value} (hv : fw_fv K (fw_g S a) (fw_r S a) k = v) (hdg : decode cc pc = .ok (.getfield idx, 3))
    (kk : W p l e Rm s m args below meth c H locs cells slots Q (F0 m (pc + 3) ls (v :: rest))) : W p l e Rm s m args below meth c H locs cells slots Q (F0 m pc ls (.ref a :: rest)) := by
  obtain ⟨hx, hb, -, hown, hts, -, -, hK⟩ := C
  obtain ⟨Cn, T, N, ⟨hcl, hin, hN, hK1, -, -, hT⟩, hkN, -, -, hlk⟩ := F
  have hat := (Rr.1 a K hk).2
  have hP : va_P G.1 fw_cl [(a, .inr (K, fw_fl K (fw_g S a) (fw_r S a)))] H := by
    intro i q hi
    cases i with
    | zero => cases hi; simpa [fw_cell, hK1] using hat
    | succ i => simp at hi
  have hf : (fw_fl K (fw_g S a) (fw_r S a))[k]? = some v := by subst hv; simp [fw_fl, ← hN, hkN]
  have hTk := hT k hkN
  rcases hlk with h | ⟨host, h⟩
  · exact va_get hx hb hts hin hown hK.1 hP 0 rfl hcl k hkN (hts _ h) (fun x h9 => by rw [hTk] at h9; exact h9) hf hdg kk
  · exact va_getN hx hb hts hin hown hK.1 hP 0 rfl hcl k hkN (va_Nw.use rfl (hK.2.1 _ h)) (fun x h9 => by rw [hTk] at h9; exact h9) hf hdg kk
theorem fw_getr (C : fw_C G own cc nL ret p s m args meth c) (Rr : fw_R G kd S H locs) {K k K' idx : Nat} {ty : FieldType} {fin : Bool} (F : fw_F own idx K k ty fin) (hk : kd a = some K) (hv : fw_fv K (fw_g S a) (fw_r S a) k = va_rf (fw_r S a k)) (hrt : fw_rt K k = some K') (hdg : decode cc pc = .ok (.getfield idx, 3))
    (k0 : fw_r S a k = none → W p l e Rm s m args below meth c H locs cells slots Q (F0 m (pc + 3) ls (.null :: rest))) (k1 : ∀ b, fw_r S a k = some b → kd b = some K' → W p l e Rm s m args below meth c H locs cells slots Q (F0 m (pc + 3) ls (.ref b :: rest))) : W p l e Rm s m args below meth c H locs cells slots Q (F0 m pc ls (.ref a :: rest)) := by
  refine fw_get C Rr F hk hv hdg ?_
  cases hq : fw_r S a k with
  | none => exact k0 hq
  | some b => exact k1 b hq (Rr.2.2.2.2.2 a K hk k b hq K' hrt)
theorem fw_putG (C : fw_C G own cc nL ret p s m args meth c) (Rr : fw_R G kd S H locs) {K k idx : Nat} {ty : FieldType} {v : Value} (F : fw_F own idx K k ty false) (hk : kd a = some K) (hn : narrow ty v = v) (hfit : fits ty v = true) (S' : fw_S)
    (hset : (fw_fl K (fw_g S a) (fw_r S a)).set k v = fw_fl K (fw_g S' a) (fw_r S' a)) (hS' : ∀ b, b ≠ a → fw_l S' b = fw_l S b ∧ fw_g S' b = fw_g S b ∧ fw_r S' b = fw_r S b) (hz : fw_z S' = fw_z S) (hW : fw_W kd S') (hdg : decode cc pc = .ok (.putfield idx, 3))
    (kk : ∀ (H1 : Heap) (locs1 : List Loc), fw_R G kd S' H1 locs1 → W p l e Rm s m args below meth c H1 locs1 cells slots Q (F0 m (pc + 3) ls rest)) : W p l e Rm s m args below meth c H locs cells slots Q (F0 m pc ls (v :: .ref a :: rest)) := by
  obtain ⟨hx, hb, -, hown, hts, -, -, hK⟩ := C
  obtain ⟨Cn, T, N, ⟨hcl, hin, hN, hK1, ⟨ty0, hty⟩, hnm, hT⟩, hkN, hd, hfin, hlk⟩ := F
  have hat := (Rr.1 a K hk).2
  rw [show fw_cell G.2.1 K (fw_l S a) (fw_g S a) (fw_r S a) = .inr (K, fw_fl K (fw_g S a) (fw_r S a)) by simp [fw_cell, hK1]] at hat
  have hap := va_apart (own := own) hts hin ty0 hty hnm hK.1 hcl
  obtain ⟨r, h1, cell, q1, q2, q3, q4⟩ := hat
  have hr : r = (Cn, T, N) := Option.some.inj (h1.symm.trans hcl)
  subst hr
  obtain ⟨hS, hfc, kC, hkC, hkind⟩ := hK.1.1 K _ hcl
  obtain ⟨cf, kf, fi, f, hi, hsl⟩ := hS k hkN
  have hlay := hts _ (hin _ (u_in_lay hkN))
  unfold u_lay at hlay
  rw [if_neg (by rw [hfin]; decide)] at hlay
  have hst := (u_facts hfc hkC (u_lays hts hin hkN) hi).1
  have h6 := u_store hfc hkC hkind hlay hi hd hn hfit
  have hl : k < (fw_fl K (fw_g S a) (fw_r S a)).length := by simp [fw_fl, ← hN, hkN]
  have hTk := hT k hkN
  have hi2 : s.fieldFound? Cn (T k).2.1 (T k).2.2.1 = some (cf, kf, fi, f) := by rw [hTk] at hi; exact hi
  have done : ∀ H' : Heap, H'[a]? = some (cell.setSlot f.slot v) → H'.size = H.size → (∀ q, q ≠ a → H'[q]? = H[q]?) → fw_R G kd S' H' (locs ++ [⟨a, f.slot⟩]) := by
    intro H' e1 e2 e3
    rw [hsl] at e1 ⊢
    refine Rr.put hk e2 e3 hS' hz hW ?_
    rw [show fw_cell G.2.1 K (fw_l S' a) (fw_g S' a) (fw_r S' a) = .inr (K, (fw_fl K (fw_g S a) (fw_r S a)).set k v) by rw [hset]; simp [fw_cell, hK1]]
    exact ⟨_, hcl, t_OB.to (V := updV (vp_V (fw_fl K (fw_g S a) (fw_r S a))) k v) ⟨_, e1, q2, q3, t_set q4 hap hkN v⟩ (fun j _ => vp_updV_set hl v j)⟩
  rcases hlk with h | ⟨host, h⟩
  · exact W.putK hx hb (f := f) ⟨hown, hts _ h, ⟨_, _, _, hi2⟩, hst⟩ (by rw [q2]; exact h6) q1 q3 (by rw [hsl]; exact k2_hasslot (q4 k hkN)) rfl rfl hdg fun H' e1 e2 e3 => kk H' _ (done H' e1 e2 e3)
  · exact va_WputK hx hb (f := f) hown (va_Nw.use rfl (hK.2.1 _ h)) hi2 hst (by rw [q2]; exact h6) q1 q3 (by rw [hsl]; exact k2_hasslot (q4 k hkN)) rfl rfl hdg fun H' e1 e2 e3 => kk H' _ (done H' e1 e2 e3)
theorem fw_putFG (C : fw_C G own cc nL ret p s m args meth c) (hin2 : meth.name = "<init>") (Rr : fw_R G kd S H locs) {K k idx : Nat} {ty : FieldType} {v : Value} (F : fw_F own idx K k ty true) (hown2 : fw_cl[K]?.map (fun q => q.1) = some own) (hk : kd a = some K) (hn : narrow ty v = v) (hfit : fits ty v = true) (S' : fw_S)
    (hset : (fw_fl K (fw_g S a) (fw_r S a)).set k v = fw_fl K (fw_g S' a) (fw_r S' a)) (hS' : ∀ b, b ≠ a → fw_l S' b = fw_l S b ∧ fw_g S' b = fw_g S b ∧ fw_r S' b = fw_r S b) (hz : fw_z S' = fw_z S) (hW : fw_W kd S') (hdg : decode cc pc = .ok (.putfield idx, 3)) (hlw : ∀ host Cn nm d, Cond.fieldLinkNest own idx Cn nm d host ∉ fw_NS)
    (kk : ∀ (H1 : Heap) (locs1 : List Loc), fw_R G kd S' H1 locs1 → W p l e Rm s m args below meth c H1 locs1 cells slots Q (F0 m (pc + 3) ls rest)) : W p l e Rm s m args below meth c H locs cells slots Q (F0 m pc ls (v :: .ref a :: rest)) := by
  obtain ⟨hx, hb, -, hown, hts, -, -, hK⟩ := C
  obtain ⟨Cn, T, N, ⟨hcl, hin, hN, hK1, ⟨ty0, hty⟩, hnm, hT⟩, hkN, hd, hfin, hlk⟩ := F
  have hCo : Cn = own := by rw [hcl] at hown2; exact Option.some.inj hown2
  have hat := (Rr.1 a K hk).2
  rw [show fw_cell G.2.1 K (fw_l S a) (fw_g S a) (fw_r S a) = .inr (K, fw_fl K (fw_g S a) (fw_r S a)) by simp [fw_cell, hK1]] at hat
  have hap := va_apart (own := own) hts hin ty0 hty hnm hK.1 hcl
  obtain ⟨r, h1, cell, q1, q2, q3, q4⟩ := hat
  have hr : r = (Cn, T, N) := Option.some.inj (h1.symm.trans hcl)
  subst hr
  obtain ⟨hS, hfc, kC, hkC, hkind⟩ := hK.1.1 K _ hcl
  obtain ⟨cf, kf, fi, f, hi, hsl⟩ := hS k hkN
  have hlay := hts _ (hin _ (u_in_lay hkN))
  unfold u_lay at hlay
  rw [if_pos hfin] at hlay
  have hst := (u_facts hfc hkC (u_lays hts hin hkN) hi).1
  have hTk := hT k hkN
  have hcf : m.cls = cf := by
    obtain ⟨_, _, c', _, _, _, -, -, hf', -, -, -, hown3, -⟩ := Cond.laysFinal_spec hlay
    have e1 : c' = cf := by have := hi.symm.trans hf'; simp at this; exact this.1.symm
    rw [hTk, hCo] at hown3
    rw [← e1]; exact Option.some.inj (hown.symm.trans hown3)
  have h6 := u_fits hfc hkC hkind (Or.inr hlay) hi hd hn hfit
  have hl : k < (fw_fl K (fw_g S a) (fw_r S a)).length := by simp [fw_fl, ← hN, hkN]
  have hi2 : s.fieldFound? Cn (T k).2.1 (T k).2.2.1 = some (cf, kf, fi, f) := by rw [hTk] at hi; exact hi
  rcases hlk with h | ⟨host, h⟩
  · refine W.putFinK hx hb hown (hts _ h) hi2 hst hcf hin2 (by rw [q2]; exact h6) q1 q3 (by rw [hsl]; exact k2_hasslot (q4 k hkN)) rfl rfl hdg fun H' e1 e2 e3 => kk H' _ ?_
    rw [hsl] at e1 ⊢
    refine Rr.put hk e2 e3 hS' hz hW ?_
    rw [show fw_cell G.2.1 K (fw_l S' a) (fw_g S' a) (fw_r S' a) = .inr (K, (fw_fl K (fw_g S a) (fw_r S a)).set k v) by rw [hset]; simp [fw_cell, hK1]]
    exact ⟨_, hcl, t_OB.to (V := updV (vp_V (fw_fl K (fw_g S a) (fw_r S a))) k v) ⟨_, e1, q2, q3, t_set q4 hap hkN v⟩ (fun j _ => vp_updV_set hl v j)⟩
  · exact absurd h (hlw _ _ _ _)
theorem fw_wi_keep {S : fw_S} {a k : Nat} {v : Int32} : ∀ b, b ≠ a → fw_l (fw_wi S a k v) b = fw_l S b ∧ fw_g (fw_wi S a k v) b = fw_g S b ∧ fw_r (fw_wi S a k v) b = fw_r S b := fun _ h => ⟨rfl, fw_g_wi_ne h, rfl⟩
theorem fw_wr_keep {S : fw_S} {a k : Nat} {v : Option Nat} : ∀ b, b ≠ a → fw_l (fw_wr S a k v) b = fw_l S b ∧ fw_g (fw_wr S a k v) b = fw_g S b ∧ fw_r (fw_wr S a k v) b = fw_r S b := fun _ h => ⟨rfl, rfl, fw_r_wr_ne h⟩
theorem fw_puti (C : fw_C G own cc nL ret p s m args meth c) (Rr : fw_R G kd S H locs) {K k idx : Nat} {v : Int32} (F : fw_F own idx K k .int false) (hf : (fw_ft K)[k]? = some none) (hk : kd a = some K) (hdg : decode cc pc = .ok (.putfield idx, 3))
    (kk : ∀ (H1 : Heap) (locs1 : List Loc), fw_R G kd (fw_wi S a k v) H1 locs1 → W p l e Rm s m args below meth c H1 locs1 cells slots Q (F0 m (pc + 3) ls rest)) : W p l e Rm s m args below meth c H locs cells slots Q (F0 m pc ls (.int v :: .ref a :: rest)) :=
  fw_putG C Rr F hk rfl rfl (fw_wi S a k v) (by rw [fw_fl_i hf, fw_g_wi_self]; rfl) fw_wi_keep rfl Rr.2.2.2.2.2.wi hdg kk
theorem fw_z01 {v : Int32} (h : v = 0 ∨ v = 1) : narrow .boolean (.int v) = .int v ∧ fits .boolean (.int v) = true := by
  rcases h with rfl | rfl <;> exact ⟨by decide, by decide⟩
theorem fw_putz (C : fw_C G own cc nL ret p s m args meth c) (Rr : fw_R G kd S H locs) {K k idx : Nat} {v : Int32} (F : fw_F own idx K k .boolean false) (hf : (fw_ft K)[k]? = some none) (hv : v = 0 ∨ v = 1) (hk : kd a = some K) (hdg : decode cc pc = .ok (.putfield idx, 3))
    (kk : ∀ (H1 : Heap) (locs1 : List Loc), fw_R G kd (fw_wi S a k v) H1 locs1 → W p l e Rm s m args below meth c H1 locs1 cells slots Q (F0 m (pc + 3) ls rest)) : W p l e Rm s m args below meth c H locs cells slots Q (F0 m pc ls (.int v :: .ref a :: rest)) :=
  fw_putG C Rr F hk (fw_z01 hv).1 (fw_z01 hv).2 (fw_wi S a k v) (by rw [fw_fl_i hf, fw_g_wi_self]; rfl) fw_wi_keep rfl Rr.2.2.2.2.2.wi hdg kk
theorem fw_putr (C : fw_C G own cc nL ret p s m args meth c) (Rr : fw_R G kd S H locs) {K k K' idx b : Nat} {ty : FieldType} (F : fw_F own idx K k ty false) (hty : fits ty (.ref b) = true) (hf : (fw_ft K)[k]? = some (some K')) (hK1 : K < 100) (hb : kd b = some K') (hk : kd a = some K) (hdg : decode cc pc = .ok (.putfield idx, 3))
    (kk : ∀ (H1 : Heap) (locs1 : List Loc), fw_R G kd (fw_wr S a k (some b)) H1 locs1 → W p l e Rm s m args below meth c H1 locs1 cells slots Q (F0 m (pc + 3) ls rest)) : W p l e Rm s m args below meth c H locs cells slots Q (F0 m pc ls (.ref b :: .ref a :: rest)) :=
  fw_putG C Rr F hk (by cases ty <;> first | rfl | cases hty) hty (fw_wr S a k (some b)) (by rw [show Value.ref b = va_rf (some b) from rfl, fw_fl_r hf, fw_r_wr_self]; rfl) fw_wr_keep rfl (Rr.2.2.2.2.2.wr hk (fun x hx K2 h2 => by cases hx; simp [fw_rt, hK1, hf] at h2; rw [← h2]; exact hb)) hdg kk
theorem fw_putFi (C : fw_C G own cc nL ret p s m args meth c) (hin2 : meth.name = "<init>") (Rr : fw_R G kd S H locs) {K k idx : Nat} {v : Int32} (F : fw_F own idx K k .int true) (hown2 : fw_cl[K]?.map (fun q => q.1) = some own) (hlw : ∀ host Cn nm d, Cond.fieldLinkNest own idx Cn nm d host ∉ fw_NS) (hf : (fw_ft K)[k]? = some none) (hk : kd a = some K) (hdg : decode cc pc = .ok (.putfield idx, 3))
    (kk : ∀ (H1 : Heap) (locs1 : List Loc), fw_R G kd (fw_wi S a k v) H1 locs1 → W p l e Rm s m args below meth c H1 locs1 cells slots Q (F0 m (pc + 3) ls rest)) : W p l e Rm s m args below meth c H locs cells slots Q (F0 m pc ls (.int v :: .ref a :: rest)) :=
  fw_putFG C hin2 Rr F hown2 hk rfl rfl (fw_wi S a k v) (by rw [fw_fl_i hf, fw_g_wi_self]; rfl) fw_wi_keep rfl Rr.2.2.2.2.2.wi hdg hlw kk
theorem fw_putFz (C : fw_C G own cc nL ret p s m args meth c) (hin2 : meth.name = "<init>") (Rr : fw_R G kd S H locs) {K k idx : Nat} {v : Int32} (F : fw_F own idx K k .boolean true) (hown2 : fw_cl[K]?.map (fun q => q.1) = some own) (hlw : ∀ host Cn nm d, Cond.fieldLinkNest own idx Cn nm d host ∉ fw_NS) (hf : (fw_ft K)[k]? = some none) (hv : v = 0 ∨ v = 1) (hk : kd a = some K) (hdg : decode cc pc = .ok (.putfield idx, 3))
    (kk : ∀ (H1 : Heap) (locs1 : List Loc), fw_R G kd (fw_wi S a k v) H1 locs1 → W p l e Rm s m args below meth c H1 locs1 cells slots Q (F0 m (pc + 3) ls rest)) : W p l e Rm s m args below meth c H locs cells slots Q (F0 m pc ls (.int v :: .ref a :: rest)) :=
  fw_putFG C hin2 Rr F hown2 hk (fw_z01 hv).1 (fw_z01 hv).2 (fw_wi S a k v) (by rw [fw_fl_i hf, fw_g_wi_self]; rfl) fw_wi_keep rfl Rr.2.2.2.2.2.wi hdg hlw kk
theorem fw_putFr (C : fw_C G own cc nL ret p s m args meth c) (hin2 : meth.name = "<init>") (Rr : fw_R G kd S H locs) {K k K' idx b : Nat} {ty : FieldType} (F : fw_F own idx K k ty true) (hown2 : fw_cl[K]?.map (fun q => q.1) = some own) (hlw : ∀ host Cn nm d, Cond.fieldLinkNest own idx Cn nm d host ∉ fw_NS) (hty : fits ty (.ref b) = true) (hf : (fw_ft K)[k]? = some (some K')) (hK1 : K < 100) (hb : kd b = some K') (hk : kd a = some K) (hdg : decode cc pc = .ok (.putfield idx, 3))
    (kk : ∀ (H1 : Heap) (locs1 : List Loc), fw_R G kd (fw_wr S a k (some b)) H1 locs1 → W p l e Rm s m args below meth c H1 locs1 cells slots Q (F0 m (pc + 3) ls rest)) : W p l e Rm s m args below meth c H locs cells slots Q (F0 m pc ls (.ref b :: .ref a :: rest)) :=
  fw_putFG C hin2 Rr F hown2 hk (by cases ty <;> first | rfl | cases hty) hty (fw_wr S a k (some b)) (by rw [show Value.ref b = va_rf (some b) from rfl, fw_fl_r hf, fw_r_wr_self]; rfl) fw_wr_keep rfl (Rr.2.2.2.2.2.wr hk (fun x hx K2 h2 => by cases hx; simp [fw_rt, hK1, hf] at h2; rw [← h2]; exact hb)) hdg hlw kk
-- arrays
theorem fw_tyAt {U : State} (hK : fw_K G U) {K : Nat} {ty : FieldType} (ht : (K, ty) ∈ fw_tys) : ArrOfT U (G.2.1 K) ty ∧ va_RA U (G.2.1 K) ty := by
  obtain ⟨i, hi⟩ := List.getElem?_of_mem ht
  exact hK.1.2 i (G.2.1 K, ty) (by unfold fw_T; rw [List.getElem?_map, hi]; rfl)
theorem fw_iald (C : fw_C G own cc nL ret p s m args meth c) (Rr : fw_R G kd S H locs) (ht : (100, FieldType.int) ∈ fw_tys) (hk : kd a = some 100) {i : Int32} (hin : ¬ (i < 0 ∨ fw_l S a ≤ i.toNatClampNeg)) (hdg : decode cc pc = .ok (.iaload, 1))
    (kk : W p l e Rm s m args below meth c H locs cells slots Q (F0 m (pc + 1) ls (.int (fw_g S a i.toNatClampNeg) :: rest))) : W p l e Rm s m args below meth c H locs cells slots Q (F0 m pc ls (.int i :: .ref a :: rest)) := by
  have hat := (Rr.1 a 100 hk).2
  have hlt : i.toNatClampNeg < fw_l S a := Nat.not_le.mp fun q => hin (Or.inr q)
  exact W.iald (v := .int (fw_g S a i.toNatClampNeg)) C.1 C.2.1 hat ((fw_tyAt C.2.2.2.2.2.2.2 ht).1 (fw_l S a) (fun j => .int (fw_g S a j))) (fun q => by cases q) (by show ¬ (i < 0 ∨ (arrV _ _ _).slots.size ≤ _); rw [arrV_size]; exact hin) (by show (arrV _ _ _).slots[_]? = _; rw [arrV_read _ _ hlt]) rfl rfl hdg kk
theorem fw_zald (C : fw_C G own cc nL ret p s m args meth c) (Rr : fw_R G kd S H locs) (ht : (101, FieldType.boolean) ∈ fw_tys) (hk : kd a = some 101) {i : Int32} (hin : ¬ (i < 0 ∨ fw_l S a ≤ i.toNatClampNeg)) (hdg : decode cc pc = .ok (.baload, 1))
    (kk : W p l e Rm s m args below meth c H locs cells slots Q (F0 m (pc + 1) ls (.int (fw_g S a i.toNatClampNeg) :: rest))) : W p l e Rm s m args below meth c H locs cells slots Q (F0 m pc ls (.int i :: .ref a :: rest)) := by
  have hat := (Rr.1 a 101 hk).2
  have hlt : i.toNatClampNeg < fw_l S a := Nat.not_le.mp fun q => hin (Or.inr q)
  exact W.zald (v := .int (fw_g S a i.toNatClampNeg)) C.1 C.2.1 hat ((fw_tyAt C.2.2.2.2.2.2.2 ht).1 (fw_l S a) (fun j => .int (fw_g S a j))) (fun q => by cases q) (by show ¬ (i < 0 ∨ (arrV _ _ _).slots.size ≤ _); rw [arrV_size]; exact hin) (by show (arrV _ _ _).slots[_]? = _; rw [arrV_read _ _ hlt]) rfl rfl hdg kk
theorem fw_aald (C : fw_C G own cc nL ret p s m args meth c) (Rr : fw_R G kd S H locs) {K : Nat} {ty : FieldType} (ht : (200 + K, ty) ∈ fw_tys) (hty : ty.isReference = true) (hk : kd a = some (200 + K)) {i : Int32} (hin : ¬ (i < 0 ∨ fw_l S a ≤ i.toNatClampNeg)) (hdg : decode cc pc = .ok (.aaload, 1))
    (kk : W p l e Rm s m args below meth c H locs cells slots Q (F0 m (pc + 1) ls (va_rf (fw_r S a i.toNatClampNeg) :: rest))) : W p l e Rm s m args below meth c H locs cells slots Q (F0 m pc ls (.int i :: .ref a :: rest)) := by
  have hat := (Rr.1 a _ hk).2
  rw [show fw_cell G.2.1 (200 + K) (fw_l S a) (fw_g S a) (fw_r S a) = .inl (G.2.1 (200 + K), fw_l S a, .inr (.inr (.inr (.inr (fw_r S a))))) by simp [fw_cell, show ¬ 200 + K < 100 by omega, show ¬ 200 + K < 200 by omega]] at hat
  have hlt : i.toNatClampNeg < fw_l S a := Nat.not_le.mp fun q => hin (Or.inr q)
  exact W.aald (v := va_rf (fw_r S a i.toNatClampNeg)) (ty := ty) C.1 C.2.1 hat ((fw_tyAt C.2.2.2.2.2.2.2 ht).1 (fw_l S a) (fun j => va_rf (fw_r S a j))) hty (fun q => by cases q) (by show ¬ (i < 0 ∨ (arrV _ _ _).slots.size ≤ _); rw [arrV_size]; exact hin) (by show (arrV _ _ _).slots[_]? = _; rw [arrV_read _ _ hlt]) rfl rfl hdg kk
theorem fw_aaldr (C : fw_C G own cc nL ret p s m args meth c) (Rr : fw_R G kd S H locs) {K : Nat} {ty : FieldType} (ht : (200 + K, ty) ∈ fw_tys) (hty : ty.isReference = true) (hk : kd a = some (200 + K)) {i : Int32} (hin : ¬ (i < 0 ∨ fw_l S a ≤ i.toNatClampNeg)) (hdg : decode cc pc = .ok (.aaload, 1))
    (k0 : fw_r S a i.toNatClampNeg = none → W p l e Rm s m args below meth c H locs cells slots Q (F0 m (pc + 1) ls (.null :: rest))) (k1 : ∀ b, fw_r S a i.toNatClampNeg = some b → kd b = some K → W p l e Rm s m args below meth c H locs cells slots Q (F0 m (pc + 1) ls (.ref b :: rest))) : W p l e Rm s m args below meth c H locs cells slots Q (F0 m pc ls (.int i :: .ref a :: rest)) := by
  refine fw_aald C Rr ht hty hk hin hdg ?_
  cases hq : fw_r S a i.toNatClampNeg with
  | none => exact k0 hq
  | some b => exact k1 b hq (Rr.2.2.2.2.2 a _ hk _ b hq K (by simp [fw_rt, show ¬ 200 + K < 100 by omega]))
theorem fw_alen (C : fw_C G own cc nL ret p s m args meth c) (Rr : fw_R G kd S H locs) {K : Nat} {ty : FieldType} (ht : (K, ty) ∈ fw_tys) (hK1 : ¬ K < 100) (hk : kd a = some K) (hdg : decode cc pc = .ok (.arraylength, 1))
    (kk : W p l e Rm s m args below meth c H locs cells slots Q (F0 m (pc + 1) ls (.int (nI (fw_l S a)) :: rest))) : W p l e Rm s m args below meth c H locs cells slots Q (F0 m pc ls (.ref a :: rest)) := by
  have hat := (Rr.1 a _ hk).2
  have hA := (fw_tyAt C.2.2.2.2.2.2.2 ht).1
  by_cases h2 : K < 200
  · rw [show fw_cell G.2.1 K (fw_l S a) (fw_g S a) (fw_r S a) = .inl (G.2.1 K, fw_l S a, .inl (fw_g S a)) by simp [fw_cell, hK1, h2]] at hat
    exact W.alen (n := nI (fw_l S a)) C.1 C.2.1 hat (hA (fw_l S a) (fun j => .int (fw_g S a j))) (by rw [vp_cell_i, arrV_size] <;> rfl) rfl rfl hdg kk
  · rw [show fw_cell G.2.1 K (fw_l S a) (fw_g S a) (fw_r S a) = .inl (G.2.1 K, fw_l S a, .inr (.inr (.inr (.inr (fw_r S a))))) by simp [fw_cell, hK1, h2]] at hat
    exact W.alen (n := nI (fw_l S a)) C.1 C.2.1 hat (hA (fw_l S a) (fun j => va_rf (fw_r S a j))) (by rw [vp_cell_q, arrV_size] <;> rfl) rfl rfl hdg kk
theorem fw_iast (C : fw_C G own cc nL ret p s m args meth c) (Rr : fw_R G kd S H locs) (ht : (100, FieldType.int) ∈ fw_tys) (hk : kd a = some 100) {i x : Int32} (hin : ¬ (i < 0 ∨ fw_l S a ≤ i.toNatClampNeg)) (hdg : decode cc pc = .ok (.iastore, 1))
    (kk : ∀ (H1 : Heap) (locs1 : List Loc), fw_R G kd (fw_wi S a i.toNatClampNeg x) H1 locs1 → W p l e Rm s m args below meth c H1 locs1 cells slots Q (F0 m (pc + 1) ls rest)) : W p l e Rm s m args below meth c H locs cells slots Q (F0 m pc ls (.int x :: .int i :: .ref a :: rest)) := by
  have hat := (Rr.1 a 100 hk).2
  refine W.iast C.1 C.2.1 hat ((fw_tyAt C.2.2.2.2.2.2.2 ht).1 (fw_l S a) (fun j => .int (fw_g S a j))) (fun q => by cases q) (by show ¬ (i < 0 ∨ (arrV _ _ _).slots.size ≤ _); rw [arrV_size]; exact hin) rfl rfl hdg fun H1 e z oq => kk H1 _ (Rr.put hk z oq fw_wi_keep rfl Rr.2.2.2.2.2.wi ?_)
  show H1[a]? = some (vp_cell _ _)
  rw [e, fw_g_wi_self]
  show some ((vp_cell (G.2.1 100) (fw_l S a, .inl (fw_g S a))).setSlot _ _) = some (vp_cell (G.2.1 100) (fw_l S a, .inl (va_up (fw_g S a) i.toNatClampNeg x)))
  rw [vp_cell_i, vp_cell_i, arrV_store]
  congr 2
  funext q
  by_cases hq : q = i.toNatClampNeg
  · subst hq
    simp [updV, va_up]
  · simp [updV, va_up, hq]
theorem fw_zast (C : fw_C G own cc nL ret p s m args meth c) (Rr : fw_R G kd S H locs) (ht : (101, FieldType.boolean) ∈ fw_tys) (hk : kd a = some 101) {i x : Int32} (hv : x = 0 ∨ x = 1) (hin : ¬ (i < 0 ∨ fw_l S a ≤ i.toNatClampNeg)) (hdg : decode cc pc = .ok (.bastore, 1))
    (kk : ∀ (H1 : Heap) (locs1 : List Loc), fw_R G kd (fw_wi S a i.toNatClampNeg x) H1 locs1 → W p l e Rm s m args below meth c H1 locs1 cells slots Q (F0 m (pc + 1) ls rest)) : W p l e Rm s m args below meth c H locs cells slots Q (F0 m pc ls (.int x :: .int i :: .ref a :: rest)) := by
  have hat := (Rr.1 a 101 hk).2
  refine W.zast C.1 C.2.1 hat ((fw_tyAt C.2.2.2.2.2.2.2 ht).1 (fw_l S a) (fun j => .int (fw_g S a j))) (fun q => by cases q) (by show ¬ (i < 0 ∨ (arrV _ _ _).slots.size ≤ _); rw [arrV_size]; exact hin) rfl rfl hdg fun H1 e z oq => kk H1 _ (Rr.put hk z oq fw_wi_keep rfl Rr.2.2.2.2.2.wi ?_)
  show H1[a]? = some (vp_cell _ _)
  rw [e, (fw_z01 hv).1, fw_g_wi_self]
  show some ((vp_cell (G.2.1 101) (fw_l S a, .inl (fw_g S a))).setSlot _ _) = some (vp_cell (G.2.1 101) (fw_l S a, .inl (va_up (fw_g S a) i.toNatClampNeg x)))
  rw [vp_cell_i, vp_cell_i, arrV_store]
  congr 2
  funext q
  by_cases hq : q = i.toNatClampNeg
  · subst hq
    simp [updV, va_up]
  · simp [updV, va_up, hq]
theorem fw_aast (C : fw_C G own cc nL ret p s m args meth c) (Rr : fw_R G kd S H locs) {K v : Nat} {q : vw_C} (hcl : fw_cl[K]? = some q) (hK1 : K < 100) (ht : (200 + K, FieldType.object q.1) ∈ fw_tys) (hk : kd a = some (200 + K)) (hkv : kd v = some K) {i : Int32} (hin : ¬ (i < 0 ∨ fw_l S a ≤ i.toNatClampNeg)) (hdg : decode cc pc = .ok (.aastore, 1))
    (kk : ∀ (H1 : Heap) (locs1 : List Loc), fw_R G kd (fw_wr S a i.toNatClampNeg (some v)) H1 locs1 → W p l e Rm s m args below meth c H1 locs1 cells slots Q (F0 m (pc + 1) ls rest)) : W p l e Rm s m args below meth c H locs cells slots Q (F0 m pc ls (.ref v :: .int i :: .ref a :: rest)) := by
  have hat := (Rr.1 a _ hk).2
  rw [show fw_cell G.2.1 (200 + K) (fw_l S a) (fw_g S a) (fw_r S a) = .inl (G.2.1 (200 + K), fw_l S a, .inr (.inr (.inr (.inr (fw_r S a))))) by simp [fw_cell, show ¬ 200 + K < 100 by omega, show ¬ 200 + K < 200 by omega]] at hat
  have hvt := (Rr.1 v K hkv).2
  rw [show fw_cell G.2.1 K (fw_l S v) (fw_g S v) (fw_r S v) = .inr (K, fw_fl K (fw_g S v) (fw_r S v)) by simp [fw_cell, hK1]] at hvt
  obtain ⟨r', hr', cellV, g1, g2, g3, -⟩ := hvt
  have hKs := C.2.2.2.2.2.2.2
  have hlt : i.toNatClampNeg < fw_l S a := Nat.not_le.mp fun q => hin (Or.inr q)
  have h0 : ¬ i < 0 := fun q => hin (Or.inl q)
  have hcls := (hKs.1.1 K q hcl).2
  obtain ⟨kA, comp, k1, k2, k3, -⟩ := (fw_tyAt hKs ht).2
  have hcomp : comp = G.1.1 K := Option.some.inj (k3.symm.trans hcls.1)
  subst hcomp
  obtain ⟨kC, hkC, -⟩ := id hcls.2
  refine W.aast C.1 C.2.1 hat (fun q h => by cases h) (fun h => by cases h) k1 k2 rfl hkC ⟨h0, by show _ < (arrV _ _ _).slots.size; rw [arrV_size]; exact hlt⟩ g1 (fun q h => by rw [g3] at h; cases h) (by rw [g2]; exact hkC) (by rw [g2]; exact va_assign hcls) rfl rfl hdg fun H1 e z oq => kk H1 _ (Rr.put hk z oq fw_wr_keep rfl (Rr.2.2.2.2.2.wr hk (fun x hx K2 h2 => by cases hx; simp [fw_rt, show ¬ 200 + K < 100 by omega] at h2; rw [← h2]; exact hkv)) ?_)
  rw [show fw_cell G.2.1 (200 + K) (fw_l (fw_wr S a i.toNatClampNeg (some v)) a) (fw_g (fw_wr S a i.toNatClampNeg (some v)) a) (fw_r (fw_wr S a i.toNatClampNeg (some v)) a) = .inl (G.2.1 (200 + K), fw_l S a, .inr (.inr (.inr (.inr (va_up (fw_r S a) i.toNatClampNeg (some v)))))) by rw [fw_r_wr_self]; simp [fw_cell, show ¬ 200 + K < 100 by omega, show ¬ 200 + K < 200 by omega]; rfl]
  show H1[a]? = some (vp_cell _ _)
  rw [e]
  rw [vp_cell_q, vp_cell_q, arrV_store]
  congr 2
  funext q
  by_cases hq : q = i.toNatClampNeg
  · subst hq
    simp [updV, va_up, va_rf]
  · simp [updV, va_up, hq]
theorem fw_aastN (C : fw_C G own cc nL ret p s m args meth c) (Rr : fw_R G kd S H locs) {K : Nat} {Cn : String} (ht : (200 + K, FieldType.object Cn) ∈ fw_tys) (hk : kd a = some (200 + K)) {i : Int32} (hin : ¬ (i < 0 ∨ fw_l S a ≤ i.toNatClampNeg)) (hdg : decode cc pc = .ok (.aastore, 1))
    (kk : ∀ (H1 : Heap) (locs1 : List Loc), fw_R G kd (fw_wr S a i.toNatClampNeg none) H1 locs1 → W p l e Rm s m args below meth c H1 locs1 cells slots Q (F0 m (pc + 1) ls rest)) : W p l e Rm s m args below meth c H locs cells slots Q (F0 m pc ls (.null :: .int i :: .ref a :: rest)) := by
  have hat := (Rr.1 a _ hk).2
  rw [show fw_cell G.2.1 (200 + K) (fw_l S a) (fw_g S a) (fw_r S a) = .inl (G.2.1 (200 + K), fw_l S a, .inr (.inr (.inr (.inr (fw_r S a))))) by simp [fw_cell, show ¬ 200 + K < 100 by omega, show ¬ 200 + K < 200 by omega]] at hat
  refine va_WaastN (C := Cn) C.1 C.2.1 hat ((fw_tyAt C.2.2.2.2.2.2.2 ht).1 (fw_l S a) (fun j => va_rf (fw_r S a j))) (fun h => by cases h) (by show ¬ (i < 0 ∨ (arrV _ _ _).slots.size ≤ _); rw [arrV_size]; exact hin) rfl rfl hdg fun H1 e z oq => kk H1 _ (Rr.put hk z oq fw_wr_keep rfl (Rr.2.2.2.2.2.wr hk (fun x hx K2 h2 => by cases hx)) ?_)
  rw [show fw_cell G.2.1 (200 + K) (fw_l (fw_wr S a i.toNatClampNeg none) a) (fw_g (fw_wr S a i.toNatClampNeg none) a) (fw_r (fw_wr S a i.toNatClampNeg none) a) = .inl (G.2.1 (200 + K), fw_l S a, .inr (.inr (.inr (.inr (va_up (fw_r S a) i.toNatClampNeg none))))) by rw [fw_r_wr_self]; simp [fw_cell, show ¬ 200 + K < 100 by omega, show ¬ 200 + K < 200 by omega]; rfl]
  show H1[a]? = some (vp_cell _ _)
  rw [e]
  rw [vp_cell_q, vp_cell_q, arrV_store]
  congr 2
  funext q
  by_cases hq : q = i.toNatClampNeg
  · subst hq
    simp [updV, va_up, va_rf]
  · simp [updV, va_up, hq]
-- what is made
theorem fw_R.made {H1 : Heap} {K n : Nat} (Rr : fw_R G kd S H locs) (z : H1.size = H.size + 1) (oq : ∀ q : Nat, q < H.size → H1[q]? = H[q]?) (hat : va_at G.1 fw_cl (H.size, fw_cell G.2.1 K n (fun _ => 0) (fun _ => none)) H1) :
    ∃ kd', fw_X kd kd' ∧ kd' (fw_z S) = some K ∧ fw_R G kd' (fw_nw S n) H1 locs := by
  obtain ⟨r1, r2, r3, r4, r5, r6⟩ := Rr
  have hlt : ∀ a K, kd a = some K → a < H.size := fun a K h => (r1 a K h).2.lt
  have hne : ∀ a K, kd a = some K → a ≠ fw_z S := fun a K h => by have := hlt a K h; omega
  refine ⟨va_up kd (fw_z S) (some K), fun a K' h => by rw [va_up_ne _ _ (hne a K' h)]; exact h, va_up_self _ _ _, fun a K' h => ?_, fun q hq => ?_, by omega, r4, by rw [fw_z_nw, z, r5], ?_⟩
  · by_cases ha : a = fw_z S
    · subst ha
      rw [va_up_self] at h
      cases h
      rw [fw_l_nw_self, fw_g_nw_self, fw_r_nw_self, ← r5]
      exact ⟨r3, hat⟩
    · rw [va_up_ne _ _ ha] at h
      rw [fw_l_nw_ne ha, fw_g_nw_ne ha, fw_r_nw_ne ha]
      exact ⟨(r1 a K' h).1, (r1 a K' h).2.kept (oq a (hlt a K' h))⟩
  · rw [oq q (by omega)]; exact r2 q hq
  · intro a Ka ha k b hb K' hK'
    by_cases hz : a = fw_z S
    · subst hz
      rw [fw_r_nw_self] at hb
      cases hb
    · rw [va_up_ne _ _ hz] at ha
      rw [fw_r_nw_ne hz] at hb
      have := r6 a Ka ha k b hb K' hK'
      rw [va_up_ne _ _ (hne b K' this)]
      exact this
theorem fw_new (C : fw_C G own cc nL ret p s m args meth c) (Rr : fw_R G kd S H locs) {K idx N : Nat} {Cn : String} {T : u_T} (hC : fw_Cl K Cn T N) (hd : ∀ j, j < N → ((parseFieldDescriptor (T j).2.2.1).map defaultValue) = some (fw_fv K (fun _ => 0) (fun _ => none) j)) (hcl : Cond.classLink own idx Cn ∈ fw_WS) (hinst : Cond.instantiable Cn N ∈ fw_WS) (hini : Cond.initialized Cn ∈ fw_WS) (hcells : cells + 1 ≤ Rm.cells) (hslots : slots + N ≤ Rm.slots) (hdg : decode cc pc = .ok (.new idx, 3))
    (kk : ∀ (H1 : Heap) (kd' : Nat → Option Nat), fw_X kd kd' → kd' (fw_z S) = some K → fw_R G kd' (fw_nw S 0) H1 locs → W p l e Rm s m args below meth c H1 locs (cells + 1) (slots + N) Q (F0 m (pc + 3) ls (.ref (fw_z S) :: rest))) : W p l e Rm s m args below meth c H locs cells slots Q (F0 m pc ls rest) := by
  obtain ⟨hx, hb, -, hown, hts, -, -, hK⟩ := C
  obtain ⟨hc, hin, hN, hK1, ⟨ty0, hty⟩, hnm, hT⟩ := hC
  have hKn := hK.1.1 K _ hc
  have hsz : H.size = fw_z S := Rr.2.2.2.2.1
  refine W.newcK hx hb hown (hts _ hcl) (hts _ hinst) (hts _ hini) rfl hdg hcells hslots hKn.2.1 rfl fun H1 kC hkC e1 z1 o1 => ?_
  obtain ⟨kd', h1, h2, h3⟩ := Rr.made (K := K) (n := 0) z1 o1 (by
    rw [show fw_cell G.2.1 K 0 (fun _ => 0) (fun _ => none) = .inr (K, fw_fl K (fun _ => 0) (fun _ => none)) by simp [fw_cell, hK1]]
    refine ⟨_, hc, (u_born ty0 hts hin hKn hkC e1 hty).to (fun j hj => ?_)⟩
    have h := hd j hj
    rw [hty j hj] at h
    have h' : defaultValue (ty0 j) = fw_fv K (fun _ => 0) (fun _ => none) j := Option.some.inj h
    rw [h']
    have hj' : j < (fw_ft K).length := hN ▸ hj
    simp [vp_V, fw_fl, hj'])
  have := kk H1 kd' h1 h2 h3
  rw [← hsz] at this
  exact this
theorem fw_newa (C : fw_C G own cc nL ret p s m args meth c) (Rr : fw_R G kd S H locs) {K : Nat} {atype : ArrayType} {ty : FieldType} (hty : newarray.typeOf atype = ty) (harr : Cond.arrayClass ty ∈ fw_WS) (ht : (K, ty) ∈ fw_tys) (hK1 : ¬ K < 100) (hK2 : K < 200) (hdef : defaultValue ty = .int 0) {n : Int32} (hn : ¬ n < 0) (hbytes : n.toNatClampNeg * componentBytes ty ≤ 536870912) (hcells : cells + 1 ≤ Rm.cells) (hslots : slots + n.toNatClampNeg ≤ Rm.slots) (hdg : decode cc pc = .ok (.newarray atype, 2)) (hra : ∀ cA, va_RA s cA ty → s.vm.findClass ("[" ++ ty.toString) = some cA)
    (kk : ∀ (H1 : Heap) (kd' : Nat → Option Nat), fw_X kd kd' → kd' (fw_z S) = some K → fw_R G kd' (fw_nw S n.toNatClampNeg) H1 locs → W p l e Rm s m args below meth c H1 locs (cells + 1) (slots + n.toNatClampNeg) Q (F0 m (pc + 2) ls (.ref (fw_z S) :: rest))) : W p l e Rm s m args below meth c H locs cells slots Q (F0 m pc ls (.int n :: rest)) := by
  subst hty
  have hsz : H.size = fw_z S := Rr.2.2.2.2.1
  refine va_newaK C.1 C.2.1 (C.2.2.2.2.1 _ harr) rfl hdg rfl hn rfl hbytes hcells hslots rfl fun H1 cA e1 z1 o1 hAr hNm => ?_
  have hcA : cA = G.2.1 K := Option.some.inj (hNm.symm.trans (hra _ (fw_tyAt C.2.2.2.2.2.2.2 ht).2))
  subst hcA
  obtain ⟨kd', h1, h2, h3⟩ := Rr.made (K := K) (n := n.toNatClampNeg) z1 o1 (by
    rw [show fw_cell G.2.1 K n.toNatClampNeg (fun _ => 0) (fun _ => none) = .inl (G.2.1 K, n.toNatClampNeg, .inl (fun _ => 0)) by simp [fw_cell, hK1, hK2]]
    show H1[H.size]? = some (vp_cell _ _)
    rw [vp_cell_i, e1, hdef])
  have := kk H1 kd' h1 h2 h3
  rw [← hsz] at this
  exact this
theorem fw_newq (C : fw_C G own cc nL ret p s m args meth c) (Rr : fw_R G kd S H locs) {K idx : Nat} {Cn : String} (hcl : Cond.classLink own idx Cn ∈ fw_WS) (hao : Cn ∈ fw_ao) (ht : (200 + K, FieldType.object Cn) ∈ fw_tys) {n : Int32} (hn : ¬ n < 0) (hbytes : n.toNatClampNeg * 4 ≤ 536870912) (hcells : cells + 1 ≤ Rm.cells) (hslots : slots + n.toNatClampNeg ≤ Rm.slots) (hdg : decode cc pc = .ok (.anewarray idx, 3))
    (kk : ∀ (H1 : Heap) (kd' : Nat → Option Nat), fw_X kd kd' → kd' (fw_z S) = some (200 + K) → fw_R G kd' (fw_nw S n.toNatClampNeg) H1 locs → W p l e Rm s m args below meth c H1 locs (cells + 1) (slots + n.toNatClampNeg) Q (F0 m (pc + 3) ls (.ref (fw_z S) :: rest))) : W p l e Rm s m args below meth c H locs cells slots Q (F0 m pc ls (.int n :: rest)) := by
  have hsz : H.size = fw_z S := Rr.2.2.2.2.1
  have hKs := C.2.2.2.2.2.2.2
  refine W.anew C.1 C.2.1 C.2.2.2.1 (C.2.2.2.2.1 _ hcl) (va_AO.use (hKs.2.2 _ hao)) rfl hdg rfl hn hbytes hcells hslots fun cA kA comp f1 f2 f3 f4 => ?_
  obtain ⟨kA', comp', k1, k2, k3, k4⟩ := (fw_tyAt hKs ht).2
  have hcA : cA = G.2.1 (200 + K) := Option.some.inj (f1.symm.trans k4)
  subst hcA
  generalize hH1 : H.push ({ cls := G.2.1 (200 + K), slots := Array.replicate n.toNatClampNeg .null, vm := .none } : Cell) = H1
  have z1 : H1.size = H.size + 1 := by rw [← hH1, Array.size_push]
  have e1 : H1[H.size]? = some (arrV (G.2.1 (200 + K)) n.toNatClampNeg (fun _ => .null)) := by rw [← hH1, Array.getElem?_push_size, ← arrV_new]
  have o1 : ∀ q : Nat, q < H.size → H1[q]? = H[q]? := fun q hq => by rw [← hH1, Array.getElem?_push, if_neg (Nat.ne_of_lt hq)]
  obtain ⟨kd', h1, h2, h3⟩ := Rr.made (K := 200 + K) (n := n.toNatClampNeg) z1 o1 (by
    rw [show fw_cell G.2.1 (200 + K) n.toNatClampNeg (fun _ => 0) (fun _ => none) = .inl (G.2.1 (200 + K), n.toNatClampNeg, .inr (.inr (.inr (.inr (fun _ => none))))) by simp [fw_cell, show ¬ 200 + K < 100 by omega, show ¬ 200 + K < 200 by omega]]
    show H1[H.size]? = some (vp_cell _ _)
    rw [vp_cell_q, e1]
    rfl)
  have := kk H1 kd' h1 h2 h3
  rw [← hsz] at this
  exact this
end FWR
end
section
/-! Contracts, starts, ends and calls over the abstract store. -/
def fw_Q (G : fw_G) (kd : Nat → Option Nat) (v : Option Value) (S' : fw_S) (P : (Nat → Option Nat) → Prop) : Array Value → State → Outcome → State → Prop := fun _ _ oc t => oc = .returned v ∧ ∃ kd', fw_X kd kd' ∧ P kd' ∧ fw_R G kd' S' t.heap []
def fw_M (l : Launch) (G : fw_G) (y : MethodName) (cc : ByteArray) (nL : Nat) (ret : Option FieldType) (fr lo mc ms : Nat) (kd : Nat → Option Nat) (S : fw_S) (as : List Value) (v : Option Value) (S' : fw_S) (P : (Nat → Option Nat) → Prop) : Prop :=
  Met l y (Cond.code y cc nL ret :: fw_WS) { frames := fr, cells := mc, slots := ms, locals := lo } (va_Pc as (fun U => fw_R G kd S U.heap [] ∧ fw_K G U)) (fw_Q G kd v S' P) mc ms (fw_A G)
theorem fw_R.nil {G : fw_G} {kd : Nat → Option Nat} {S : fw_S} {H : Heap} {locs : List Loc} (h : fw_R G kd S H locs) : fw_R G kd S H [] := ⟨h.1, h.2.1, h.2.2.1, (fun _ h => by cases h), h.2.2.2.2⟩
theorem fw_R.more {G : fw_G} {kd : Nat → Option Nat} {S : fw_S} {H : Heap} {locs L : List Loc} (h : fw_R G kd S H []) (h1 : ∀ q ∈ locs, G.2.2.size ≤ q.base) (h2 : ∀ q ∈ L, G.2.2.size ≤ q.base) : fw_R G kd S H (locs ++ L) := ⟨h.1, h.2.1, h.2.2.1, fun q hq => (List.mem_append.mp hq).elim (h1 q) (h2 q), h.2.2.2.2⟩
theorem fw_start {l : Launch} {G : fw_G} {y : MethodName} {cc : ByteArray} {nL : Nat} {ret : Option FieldType} {fr lo mc ms : Nat} {kd : Nat → Option Nat} {S : fw_S} {as : List Value} {v : Option Value} {S' : fw_S} {P : (Nat → Option Nat) → Prop} (hy : plainName y.cls = true) (hlen : (lg_sl as).length ≤ nL)
    (body : ∀ (p : Program) (e : Env) (s : State) (m : MethodId) (below : List Frame) (meth : Method) (c : Code) (ls : Array Slot), fw_C G y.cls cc nL ret p s m as.toArray meth c → meth.name = y.name → fw_R G kd S s.heap [] → lv_has ls nL (lv_args 0 as) →
      W p l e { frames := fr, cells := mc, slots := ms, locals := lo } s m as.toArray below meth c s.heap [] 0 0 (MQ below (fw_Q G kd v S' P) as.toArray s mc ms (fw_A G)) (F0 m 0 ls [])) : fw_M l G y cc nL ret fr lo mc ms kd S as v S' P := by
  refine Met.ofW (cc := cc) (maxL := nL) (ret := ret) hy rfl ?_
  intro p e s m args below meth c s₁ B hml hv
  obtain ⟨rfl, hR, hK⟩ := hv
  have hts := atoms_spec (ws := Cond.code y cc nL ret :: fw_WS) B.pre
  rw [lg_entry_eq]
  exact body p e s m below meth c _ ⟨B.exec, B.bytes, hml, findClass_of_methodNamed B.named, fun w hw => hts w (List.mem_cons_of_mem _ hw), B.notSynchronized, B.returns, hK⟩ (name_of_methodNamed B.named B.method).1 hR (lv_entry as hlen)
-- a call's fixed facts
def fw_L (own : String) (idx : Nat) (y : MethodName) (cc : ByteArray) (nL : Nat) (ret : Option FieldType) (n : Nat) : Prop :=
  Cond.code y cc nL ret ∈ fw_WS ∧ Cond.initialized y.cls ∈ fw_WS ∧ (y.cls ≠ "java/lang/invoke/MethodHandle" ∧ y.cls ≠ "java/lang/invoke/VarHandle") ∧ (parseMethodDescriptor y.desc).map (fun d => d.parameters.length) = some n ∧ (Cond.methodLink own idx y ∈ fw_WS ∨ ∃ host, Cond.methodLinkNest own idx y host ∈ fw_NS)
theorem fw_good {y : MethodName} {cc : ByteArray} {nL : Nat} {ret : Option FieldType} (h : Cond.code y cc nL ret ∈ fw_WS) : GoodIn fw_WS (Cond.code y cc nL ret :: fw_WS) := by
  intro w hw
  rcases List.mem_cons.mp hw with rfl | hw
  · exact ⟨h, good_of_word (fw_WS_ok _ h)⟩
  · exact ⟨hw, good_of_word (fw_WS_ok _ hw)⟩
section FWC
variable {p : Program} {l : Launch} {e : Env} {Rm : Room} {s : State} {m : MethodId} {args : Array Value} {below : List Frame} {meth : Method} {c : Code} {H : Heap} {locs : List Loc} {cells slots : Nat} {Q : State → Prop} {G : fw_G} {own : String} {cc : ByteArray} {nL : Nat} {ret : Option FieldType} {kd : Nat → Option Nat} {S : fw_S} {pc : Nat} {ls : Array Slot} {rest : List Value} {a : Nat}
variable {y : MethodName} {cc' : ByteArray} {nL' : Nat} {ret' : Option FieldType} {fr lo mc ms idx n b : Nat} {As st : List Value} {v : Option Value} {S' : fw_S} {P : (Nat → Option Nat) → Prop}
theorem fw_blind {as : List Value} : FrameBlind (va_Pc as (fun U => fw_R G kd S U.heap [] ∧ fw_K G U)) := fun _ _ _ _ q => ⟨q.1, q.2.1, q.2.2.calling⟩
theorem fw_back {st0 : List Value} {as : Array Value} (Rr : fw_R G kd S H locs) (hr : va_Run p l e Rm s m args below meth c H locs cells slots mc ms (F0 m pc ls st0) rest (fw_Q G kd v S' P as) (fw_A G))
    (kk : ∀ (H1 : Heap) (locs1 : List Loc) (kd' : Nat → Option Nat), fw_X kd kd' → P kd' → fw_R G kd' S' H1 locs1 → W p l e Rm s m args below meth c H1 locs1 (cells + mc) (slots + ms) Q (F0 m (pc + 3) ls (v.toList ++ rest))) : W p l e Rm s m args below meth c H locs cells slots Q (F0 m pc ls st0) := by
  intro T hT X
  obtain ⟨v', st₀, t, T', L, h0, X', hL, e1, e2, ⟨hv, kd', h1, h2, h3⟩, st⟩ := hr T hT X
  cases hv
  obtain ⟨t2, a1, b1⟩ := kk T'.heap (locs ++ L) kd' h1 h2 (by rw [e1]; exact h3.more Rr.2.2.2.1 hL) T' rfl X'
  exact ⟨t2, st t2 a1, b1⟩
theorem fw_recv (hK : fw_K G s) (Rr : fw_R G kd S H locs) {K : Nat} (hk : kd b = some K) (hK1 : K < 100) {Cn : String} (hc : fw_cl[K]?.map (fun q => q.1) = some Cn) : ∃ cell : Cell, H[b]? = some cell ∧ cell.vm.isStatics = false ∧ s.vm.findClass Cn = some cell.cls := by
  have hat := (Rr.1 b K hk).2
  rw [show fw_cell G.2.1 K (fw_l S b) (fw_g S b) (fw_r S b) = .inr (K, fw_fl K (fw_g S b) (fw_r S b)) by simp [fw_cell, hK1]] at hat
  obtain ⟨q, h1, cell, g1, g2, g3, -⟩ := hat
  rw [h1] at hc
  cases hc
  exact ⟨cell, g1, by rw [g3]; rfl, by rw [g2]; exact (hK.1.1 K q h1).2.1⟩
theorem fw_callV (C : fw_C G own cc nL ret p s m args meth c) (Rr : fw_R G kd S H locs) (LK : fw_L own idx y cc' nL' ret' n) (hi : Cond.instanceMethod y ∈ fw_WS) (hs : Cond.selects y.cls y y ∈ fw_WS) (hM : fw_M l G y cc' nL' ret' fr lo mc ms kd S (.ref b :: As) v S' P) {K : Nat} (hk : kd b = some K) (hK1 : K < 100) (hc : fw_cl[K]?.map (fun q => q.1) = some y.cls)
    (hn : As.length = n) (hsize : ls.size = nL) (hst : st = As.reverse ++ .ref b :: rest) (hW : 2 * (F0 m pc ls st).monitorRoom + (rest.map fun v => v.category).sum ≤ 8) (hR : fr + 1 ≤ Rm.frames ∧ 8 + (nL' + 11) + lo ≤ Rm.locals) (hcs : cells + mc ≤ Rm.cells ∧ slots + ms ≤ Rm.slots) (hdg : decode cc pc = .ok (.invokevirtual idx, 3))
    (kk : ∀ (H1 : Heap) (locs1 : List Loc) (kd' : Nat → Option Nat), fw_X kd kd' → P kd' → fw_R G kd' S' H1 locs1 → W p l e Rm s m args below meth c H1 locs1 (cells + mc) (slots + ms) Q (F0 m (pc + 3) ls (v.toList ++ rest))) : W p l e Rm s m args below meth c H locs cells slots Q (F0 m pc ls st) := by
  obtain ⟨hx, hb, hml, hown, hts, -, -, hK⟩ := C
  obtain ⟨l1, l2, l3, l4, l5⟩ := LK
  have hp : PreV s H y.cls b (va_Pc (.ref b :: As) (fun U => fw_R G kd S U.heap [] ∧ fw_K G U)) As := ⟨fw_blind, fw_recv hK Rr hk hK1 hc, fun U hU hW => ⟨rfl, by rw [hU]; exact Rr.nil, hK.moved hW⟩⟩
  rcases l5 with l5 | ⟨host, l5⟩
  · exact fw_back Rr (va_runV ⟨hx, hb, hml, hown, hts⟩ hM ⟨callB_of n hts (fw_good l1) rfl rfl rfl (hts _ l2) (hts _ l5) ⟨l3.1, l3.2, l4⟩ hR, hts _ hi, hts _ hs⟩ hp rfl hn hsize hst hW hdg hcs) kk
  · exact fw_back Rr (va_runVN ⟨hx, hb, hml, hown, hts⟩ hM ⟨va_cnB n hts (fw_good l1) rfl rfl rfl (hK.2.1 _ l5) (hts _ l2) ⟨l3.1, l3.2, l4⟩ hR, hts _ hi, hts _ hs⟩ hp rfl hn hsize hst hW hdg hcs) kk
theorem fw_callS (C : fw_C G own cc nL ret p s m args meth c) (Rr : fw_R G kd S H locs) (LK : fw_L own idx y cc' nL' ret' n) (hi : Cond.static y ∈ fw_WS) (hM : fw_M l G y cc' nL' ret' fr lo mc ms kd S As v S' P)
    (hn : As.length = n) (hsize : ls.size = nL) (hst : st = As.reverse ++ rest) (hW : 2 * (F0 m pc ls st).monitorRoom + (rest.map fun v => v.category).sum ≤ 8) (hR : fr + 1 ≤ Rm.frames ∧ 8 + (nL' + 11) + lo ≤ Rm.locals) (hcs : cells + mc ≤ Rm.cells ∧ slots + ms ≤ Rm.slots) (hdg : decode cc pc = .ok (.invokestatic idx, 3))
    (kk : ∀ (H1 : Heap) (locs1 : List Loc) (kd' : Nat → Option Nat), fw_X kd kd' → P kd' → fw_R G kd' S' H1 locs1 → W p l e Rm s m args below meth c H1 locs1 (cells + mc) (slots + ms) Q (F0 m (pc + 3) ls (v.toList ++ rest))) : W p l e Rm s m args below meth c H locs cells slots Q (F0 m pc ls st) := by
  obtain ⟨hx, hb, hml, hown, hts, -, -, hK⟩ := C
  obtain ⟨l1, l2, l3, l4, l5⟩ := LK
  have hp : PreS s H (va_Pc As (fun U => fw_R G kd S U.heap [] ∧ fw_K G U)) As := ⟨fw_blind, fun U hU hW => ⟨rfl, by rw [hU]; exact Rr.nil, hK.moved hW⟩⟩
  rcases l5 with l5 | ⟨host, l5⟩
  · exact fw_back Rr (va_runS ⟨hx, hb, hml, hown, hts⟩ hM ⟨callB_of n hts (fw_good l1) rfl rfl rfl (hts _ l2) (hts _ l5) ⟨l3.1, l3.2, l4⟩ hR, hts _ hi⟩ hp rfl hn hsize hst hW hdg hcs) kk
  · exact fw_back Rr (va_runSN ⟨hx, hb, hml, hown, hts⟩ hM ⟨va_cnB n hts (fw_good l1) rfl rfl rfl (hK.2.1 _ l5) (hts _ l2) ⟨l3.1, l3.2, l4⟩ hR, hts _ hi, trivial⟩ hp rfl hn hsize hst hW hdg hcs) kk
theorem fw_callI (C : fw_C G own cc nL ret p s m args meth c) (Rr : fw_R G kd S H locs) (LK : fw_L own idx y cc' nL' none n) (hi : Cond.instanceMethod y ∈ fw_WS) (hy : y.name = "<init>") (hM : fw_M l G y cc' nL' none fr lo mc ms kd S (.ref b :: As) v S' P)
    (hn : As.length = n) (hsize : ls.size = nL) (hst : st = As.reverse ++ .ref b :: rest) (hW : 2 * (F0 m pc ls st).monitorRoom + (rest.map fun v => v.category).sum ≤ 8) (hR : fr + 1 ≤ Rm.frames ∧ 8 + (nL' + 11) + lo ≤ Rm.locals) (hcs : cells + mc ≤ Rm.cells ∧ slots + ms ≤ Rm.slots) (hdg : decode cc pc = .ok (.invokespecial idx, 3))
    (kk : ∀ (H1 : Heap) (locs1 : List Loc) (kd' : Nat → Option Nat), fw_X kd kd' → P kd' → fw_R G kd' S' H1 locs1 → W p l e Rm s m args below meth c H1 locs1 (cells + mc) (slots + ms) Q (F0 m (pc + 3) ls (v.toList ++ rest))) : W p l e Rm s m args below meth c H locs cells slots Q (F0 m pc ls st) := by
  obtain ⟨hx, hb, hml, hown, hts, -, -, hK⟩ := C
  obtain ⟨l1, l2, l3, l4, l5⟩ := LK
  have hp : PreS s H (va_Pc (.ref b :: As) (fun U => fw_R G kd S U.heap [] ∧ fw_K G U)) (.ref b :: As) := ⟨fw_blind, fun U hU hW => ⟨rfl, by rw [hU]; exact Rr.nil, hK.moved hW⟩⟩
  rcases l5 with l5 | ⟨host, l5⟩
  · exact fw_back Rr (va_runI ⟨hx, hb, hml, hown, hts⟩ hM ⟨callB_of n hts (fw_good l1) rfl rfl rfl (hts _ l2) (hts _ l5) ⟨l3.1, l3.2, l4⟩ hR, hy, hts _ hi⟩ hp rfl hn hsize hst hW hdg hcs) kk
  · exact fw_back Rr (va_runIN ⟨hx, hb, hml, hown, hts⟩ hM ⟨va_cnB n hts (fw_good l1) rfl rfl rfl (hK.2.1 _ l5) (hts _ l2) ⟨l3.1, l3.2, l4⟩ hR, hy, hts _ hi⟩ hp rfl hn hsize hst hW hdg hcs) kk
theorem fw_min (C : fw_C G own cc nL ret p s m args meth c) (hl : Cond.methodLink own idx Lib.Math.min.name ∈ fw_WS) (h1 : Cond.static Lib.Math.min.name ∈ fw_WS) (h2 : Cond.initialized "java/lang/Math" ∈ fw_WS) (h3 : Cond.code Lib.Math.min.name Lib.Math.min.code 2 (some .int) ∈ fw_WS) (hsize : ls.size = nL)
    (hf : 1 ≤ Rm.frames) (hlo : (rest.map fun v => v.category).sum + 13 ≤ Rm.locals) (hc : cells ≤ Rm.cells) (hs : slots ≤ Rm.slots) {x z : Int32} (hdg : decode cc pc = .ok (.invokestatic idx, 3))
    (kk : W p l e Rm s m args below meth c H locs cells slots Q (F0 m (pc + 3) ls (.int (if z < x then z else x) :: rest))) : W p l e Rm s m args below meth c H locs cells slots Q (F0 m pc ls (.int z :: .int x :: rest)) :=
  va_mmin C.1 C.2.1 (C.2.2.1.trans hsize.symm) C.2.2.2.1 (C.2.2.2.2.1 _ hl) (C.2.2.2.2.1 _ h1) (C.2.2.2.2.1 _ h2) (C.2.2.2.2.1 _ h3) hf hlo hc hs hdg kk
theorem fw_max (C : fw_C G own cc nL ret p s m args meth c) (hl : Cond.methodLink own idx Lib.Math.max.name ∈ fw_WS) (h1 : Cond.static Lib.Math.max.name ∈ fw_WS) (h2 : Cond.initialized "java/lang/Math" ∈ fw_WS) (h3 : Cond.code Lib.Math.max.name Lib.Math.max.code 2 (some .int) ∈ fw_WS) (hsize : ls.size = nL)
    (hf : 1 ≤ Rm.frames) (hlo : (rest.map fun v => v.category).sum + 13 ≤ Rm.locals) (hc : cells ≤ Rm.cells) (hs : slots ≤ Rm.slots) {x z : Int32} (hdg : decode cc pc = .ok (.invokestatic idx, 3))
    (kk : W p l e Rm s m args below meth c H locs cells slots Q (F0 m (pc + 3) ls (.int (if x < z then z else x) :: rest))) : W p l e Rm s m args below meth c H locs cells slots Q (F0 m pc ls (.int z :: .int x :: rest)) :=
  va_mmax C.1 C.2.1 (C.2.2.1.trans hsize.symm) C.2.2.2.1 (C.2.2.2.2.1 _ hl) (C.2.2.2.2.1 _ h1) (C.2.2.2.2.1 _ h2) (C.2.2.2.2.1 _ h3) hf hlo hc hs hdg kk
theorem fw_obj (C : fw_C G own cc nL ret p s m args meth c) (hl : Cond.methodLink own idx objectInit ∈ fw_WS) (h1 : Cond.instanceMethod objectInit ∈ fw_WS) (h2 : Cond.code objectInit ⟨#[0xb1]⟩ 1 none ∈ fw_WS) (hsize : ls.size = nL) (hd : decode cc pc = .ok (.invokespecial idx, 3))
    (hf : 1 ≤ Rm.frames) (hlo : 2 * (F0 m pc ls (.ref a :: rest)).monitorRoom + (rest.map fun v => v.category).sum + 12 ≤ Rm.locals)
    (kk : W p l e Rm s m args below meth c H locs cells slots Q (F0 m (pc + 3) ls rest)) : W p l e Rm s m args below meth c H locs cells slots Q (F0 m pc ls (.ref a :: rest)) :=
  W.objInit C.1 C.2.1 C.2.2.2.1 (C.2.2.2.2.1 _ hl) (C.2.2.2.2.1 _ h1) (C.2.2.2.2.1 _ h2) rfl (hsize.trans C.2.2.1.symm) rfl hd hf hlo kk
-- ends
variable {kd0 : Nat → Option Nat}
theorem fw_iret {x : Int32} (C : fw_C G own cc nL (some .int) p s m args meth c) (hX : fw_X kd0 kd) (hP : P kd) (Rr : fw_R G kd S H locs) (hdg : decode cc pc = .ok (.ireturn, 1)) : W p l e Rm s m args below meth c H locs cells slots (MQ below (fw_Q G kd0 (some (.int x)) S P) args s cells slots (fw_A G)) (F0 m pc ls [.int x]) :=
  W.iret C.1 C.2.1 C.2.2.2.2.2.2.1 (fun t ht _ => ⟨rfl, kd, hX, hP, by rw [ht]; exact Rr.nil⟩) Rr.2.2.2.1 hdg C.2.2.2.2.2.1
theorem fw_zret {x : Int32} (C : fw_C G own cc nL (some .boolean) p s m args meth c) (hx : x = 0 ∨ x = 1) (hX : fw_X kd0 kd) (hP : P kd) (Rr : fw_R G kd S H locs) (hdg : decode cc pc = .ok (.ireturn, 1)) : W p l e Rm s m args below meth c H locs cells slots (MQ below (fw_Q G kd0 (some (.int x)) S P) args s cells slots (fw_A G)) (F0 m pc ls [.int x]) :=
  W.zret C.1 C.2.1 C.2.2.2.2.2.2.1 (fw_z01 hx).1 (fun t ht _ => ⟨rfl, kd, hX, hP, by rw [ht]; exact Rr.nil⟩) Rr.2.2.2.1 hdg C.2.2.2.2.2.1
theorem fw_vret (C : fw_C G own cc nL none p s m args meth c) (hX : fw_X kd0 kd) (hP : P kd) (Rr : fw_R G kd S H locs) (hdg : decode cc pc = .ok (.return_, 1)) : W p l e Rm s m args below meth c H locs cells slots (MQ below (fw_Q G kd0 none S P) args s cells slots (fw_A G)) (F0 m pc ls []) :=
  W.vret C.1 C.2.1 C.2.2.2.2.2.2.1 (fun t ht _ => ⟨rfl, kd, hX, hP, by rw [ht]; exact Rr.nil⟩) Rr.2.2.2.1 hdg C.2.2.2.2.2.1
theorem fw_aret {Cn : String} {o : Option Nat} (C : fw_C G own cc nL (some (.object Cn)) p s m args meth c) (hX : fw_X kd0 kd) (hP : P kd) (Rr : fw_R G kd S H locs) (hdg : decode cc pc = .ok (.areturn, 1)) : W p l e Rm s m args below meth c H locs cells slots (MQ below (fw_Q G kd0 (some (va_rf o)) S P) args s cells slots (fw_A G)) (F0 m pc ls [va_rf o]) :=
  W.aret C.1 C.2.1 C.2.2.2.2.2.2.1 (Or.inl ⟨_, rfl⟩) (by cases o <;> simp [va_rf]) (fun t ht _ => ⟨rfl, kd, hX, hP, by rw [ht]; exact Rr.nil⟩) Rr.2.2.2.1 hdg C.2.2.2.2.2.1
end FWC
end
section
/-! Facts of the tables (by program). -/
theorem cw_0 : ∀ w ∈ u_ws "FederationWire$Frame" fT_0 4, w ∈ lw_tbl := by decide +kernel
theorem cg_0 : ∀ w ∈ u_ws "FederationWire$Frame" fT_0 4, goodWord w = true := by decide +kernel
theorem cy_0 : ∀ j, j < 4 → parseFieldDescriptor (fT_0 j).2.2.1 = some (fY_0 j) := by decide +kernel
theorem cl_0 : fw_Cl 0 "FederationWire$Frame" fT_0 4 := ⟨rfl, fun w h => fw_in (cw_0 w h) (cg_0 w h), rfl, by decide, ⟨fY_0, cy_0⟩, by decide +kernel, by decide +kernel⟩
theorem nd_0 : ∀ j, j < 4 → ((parseFieldDescriptor (fT_0 j).2.2.1).map defaultValue) = some (fw_fv 0 (fun _ => 0) (fun _ => none) j) := by
  intro j hj
  rw [cy_0 j hj]
  have h : j = 0 ∨ j = 1 ∨ j = 2 ∨ j = 3 := by omega
  rcases h with rfl | rfl | rfl | rfl <;> rfl
theorem ni_0 : Cond.instantiable "FederationWire$Frame" 4 ∈ fw_WS := fw_in (fw_tb (i := 56) (by decide +kernel)) rfl
theorem nj_0 : Cond.initialized "FederationWire$Frame" ∈ fw_WS := fw_in (fw_tb (i := 5) (by decide +kernel)) rfl
theorem cw_1 : ∀ w ∈ u_ws "FederationWire$Memory" fT_1 4, w ∈ lw_tbl := by decide +kernel
theorem cg_1 : ∀ w ∈ u_ws "FederationWire$Memory" fT_1 4, goodWord w = true := by decide +kernel
theorem cy_1 : ∀ j, j < 4 → parseFieldDescriptor (fT_1 j).2.2.1 = some (fY_1 j) := by decide +kernel
theorem cl_1 : fw_Cl 1 "FederationWire$Memory" fT_1 4 := ⟨rfl, fun w h => fw_in (cw_1 w h) (cg_1 w h), rfl, by decide, ⟨fY_1, cy_1⟩, by decide +kernel, by decide +kernel⟩
theorem nd_1 : ∀ j, j < 4 → ((parseFieldDescriptor (fT_1 j).2.2.1).map defaultValue) = some (fw_fv 1 (fun _ => 0) (fun _ => none) j) := by
  intro j hj
  rw [cy_1 j hj]
  have h : j = 0 ∨ j = 1 ∨ j = 2 ∨ j = 3 := by omega
  rcases h with rfl | rfl | rfl | rfl <;> rfl
theorem ni_1 : Cond.instantiable "FederationWire$Memory" 4 ∈ fw_WS := fw_in (fw_tb (i := 83) (by decide +kernel)) rfl
theorem nj_1 : Cond.initialized "FederationWire$Memory" ∈ fw_WS := fw_in (fw_tb (i := 6) (by decide +kernel)) rfl
theorem cw_2 : ∀ w ∈ u_ws "FederationWire$Pairs" fT_2 3, w ∈ lw_tbl := by decide +kernel
theorem cg_2 : ∀ w ∈ u_ws "FederationWire$Pairs" fT_2 3, goodWord w = true := by decide +kernel
theorem cy_2 : ∀ j, j < 3 → parseFieldDescriptor (fT_2 j).2.2.1 = some (fY_2 j) := by decide +kernel
theorem cl_2 : fw_Cl 2 "FederationWire$Pairs" fT_2 3 := ⟨rfl, fun w h => fw_in (cw_2 w h) (cg_2 w h), rfl, by decide, ⟨fY_2, cy_2⟩, by decide +kernel, by decide +kernel⟩
theorem nd_2 : ∀ j, j < 3 → ((parseFieldDescriptor (fT_2 j).2.2.1).map defaultValue) = some (fw_fv 2 (fun _ => 0) (fun _ => none) j) := by
  intro j hj
  rw [cy_2 j hj]
  have h : j = 0 ∨ j = 1 ∨ j = 2 := by omega
  rcases h with rfl | rfl | rfl <;> rfl
theorem ni_2 : Cond.instantiable "FederationWire$Pairs" 3 ∈ fw_WS := fw_in (fw_tb (i := 23) (by decide +kernel)) rfl
theorem nj_2 : Cond.initialized "FederationWire$Pairs" ∈ fw_WS := fw_in (fw_tb (i := 2) (by decide +kernel)) rfl
theorem cw_3 : ∀ w ∈ u_ws "FederationWire$Request" fT_3 16, w ∈ lw_tbl := by decide +kernel
theorem cg_3 : ∀ w ∈ u_ws "FederationWire$Request" fT_3 16, goodWord w = true := by decide +kernel
theorem cy_3 : ∀ j, j < 16 → parseFieldDescriptor (fT_3 j).2.2.1 = some (fY_3 j) := by decide +kernel
theorem cl_3 : fw_Cl 3 "FederationWire$Request" fT_3 16 := ⟨rfl, fun w h => fw_in (cw_3 w h) (cg_3 w h), rfl, by decide, ⟨fY_3, cy_3⟩, by decide +kernel, by decide +kernel⟩
theorem nd_3 : ∀ j, j < 16 → ((parseFieldDescriptor (fT_3 j).2.2.1).map defaultValue) = some (fw_fv 3 (fun _ => 0) (fun _ => none) j) := by
  intro j hj
  rw [cy_3 j hj]
  have h : j = 0 ∨ j = 1 ∨ j = 2 ∨ j = 3 ∨ j = 4 ∨ j = 5 ∨ j = 6 ∨ j = 7 ∨ j = 8 ∨ j = 9 ∨ j = 10 ∨ j = 11 ∨ j = 12 ∨ j = 13 ∨ j = 14 ∨ j = 15 := by omega
  rcases h with rfl | rfl | rfl | rfl | rfl | rfl | rfl | rfl | rfl | rfl | rfl | rfl | rfl | rfl | rfl | rfl <;> rfl
theorem ni_3 : Cond.instantiable "FederationWire$Request" 16 ∈ fw_WS := fw_in (fw_tb (i := 272) (by decide +kernel)) rfl
theorem nj_3 : Cond.initialized "FederationWire$Request" ∈ fw_WS := fw_in (fw_tb (i := 9) (by decide +kernel)) rfl
theorem cw_4 : ∀ w ∈ u_ws "FederationWire$ServingEnd" fT_4 5, w ∈ lw_tbl := by decide +kernel
theorem cg_4 : ∀ w ∈ u_ws "FederationWire$ServingEnd" fT_4 5, goodWord w = true := by decide +kernel
theorem cy_4 : ∀ j, j < 5 → parseFieldDescriptor (fT_4 j).2.2.1 = some (fY_4 j) := by decide +kernel
theorem cl_4 : fw_Cl 4 "FederationWire$ServingEnd" fT_4 5 := ⟨rfl, fun w h => fw_in (cw_4 w h) (cg_4 w h), rfl, by decide, ⟨fY_4, cy_4⟩, by decide +kernel, by decide +kernel⟩
theorem nd_4 : ∀ j, j < 5 → ((parseFieldDescriptor (fT_4 j).2.2.1).map defaultValue) = some (fw_fv 4 (fun _ => 0) (fun _ => none) j) := by
  intro j hj
  rw [cy_4 j hj]
  have h : j = 0 ∨ j = 1 ∨ j = 2 ∨ j = 3 ∨ j = 4 := by omega
  rcases h with rfl | rfl | rfl | rfl | rfl <;> rfl
theorem ni_4 : Cond.instantiable "FederationWire$ServingEnd" 5 ∈ fw_WS := fw_in (fw_tb (i := 46) (by decide +kernel)) rfl
theorem nj_4 : Cond.initialized "FederationWire$ServingEnd" ∈ fw_WS := fw_in (fw_tb (i := 4) (by decide +kernel)) rfl
theorem cw_5 : ∀ w ∈ u_ws "FederationWire$Wire" fT_5 7, w ∈ lw_tbl := by decide +kernel
theorem cg_5 : ∀ w ∈ u_ws "FederationWire$Wire" fT_5 7, goodWord w = true := by decide +kernel
theorem cy_5 : ∀ j, j < 7 → parseFieldDescriptor (fT_5 j).2.2.1 = some (fY_5 j) := by decide +kernel
theorem cl_5 : fw_Cl 5 "FederationWire$Wire" fT_5 7 := ⟨rfl, fun w h => fw_in (cw_5 w h) (cg_5 w h), rfl, by decide, ⟨fY_5, cy_5⟩, by decide +kernel, by decide +kernel⟩
theorem nd_5 : ∀ j, j < 7 → ((parseFieldDescriptor (fT_5 j).2.2.1).map defaultValue) = some (fw_fv 5 (fun _ => 0) (fun _ => none) j) := by
  intro j hj
  rw [cy_5 j hj]
  have h : j = 0 ∨ j = 1 ∨ j = 2 ∨ j = 3 ∨ j = 4 ∨ j = 5 ∨ j = 6 := by omega
  rcases h with rfl | rfl | rfl | rfl | rfl | rfl | rfl <;> rfl
theorem ni_5 : Cond.instantiable "FederationWire$Wire" 7 ∈ fw_WS := fw_in (fw_tb (i := 127) (by decide +kernel)) rfl
theorem nj_5 : Cond.initialized "FederationWire$Wire" ∈ fw_WS := fw_in (fw_tb (i := 7) (by decide +kernel)) rfl
theorem cw_6 : ∀ w ∈ u_ws "FederationWire" fT_6 13, w ∈ lw_tbl := by decide +kernel
theorem cg_6 : ∀ w ∈ u_ws "FederationWire" fT_6 13, goodWord w = true := by decide +kernel
theorem cy_6 : ∀ j, j < 13 → parseFieldDescriptor (fT_6 j).2.2.1 = some (fY_6 j) := by decide +kernel
theorem cl_6 : fw_Cl 6 "FederationWire" fT_6 13 := ⟨rfl, fun w h => fw_in (cw_6 w h) (cg_6 w h), rfl, by decide, ⟨fY_6, cy_6⟩, by decide +kernel, by decide +kernel⟩
theorem nd_6 : ∀ j, j < 13 → ((parseFieldDescriptor (fT_6 j).2.2.1).map defaultValue) = some (fw_fv 6 (fun _ => 0) (fun _ => none) j) := by
  intro j hj
  rw [cy_6 j hj]
  have h : j = 0 ∨ j = 1 ∨ j = 2 ∨ j = 3 ∨ j = 4 ∨ j = 5 ∨ j = 6 ∨ j = 7 ∨ j = 8 ∨ j = 9 ∨ j = 10 ∨ j = 11 ∨ j = 12 := by omega
  rcases h with rfl | rfl | rfl | rfl | rfl | rfl | rfl | rfl | rfl | rfl | rfl | rfl | rfl <;> rfl
theorem ni_6 : Cond.instantiable "FederationWire" 13 ∈ fw_WS := fw_in (fw_tb (i := 11) (by decide +kernel)) rfl
theorem nj_6 : Cond.initialized "FederationWire" ∈ fw_WS := fw_in (fw_tb (i := 1) (by decide +kernel)) rfl
theorem cw_7 : ∀ w ∈ u_ws "FederationWireModel" fT_7 51, w ∈ lw_tbl := by decide +kernel
theorem cg_7 : ∀ w ∈ u_ws "FederationWireModel" fT_7 51, goodWord w = true := by decide +kernel
theorem cy_7 : ∀ j, j < 51 → parseFieldDescriptor (fT_7 j).2.2.1 = some (fY_7 j) := by decide +kernel
theorem cl_7 : fw_Cl 7 "FederationWireModel" fT_7 51 := ⟨rfl, fun w h => fw_in (cw_7 w h) (cg_7 w h), rfl, by decide, ⟨fY_7, cy_7⟩, by decide +kernel, by decide +kernel⟩
theorem nd_7 : ∀ j, j < 51 → ((parseFieldDescriptor (fT_7 j).2.2.1).map defaultValue) = some (fw_fv 7 (fun _ => 0) (fun _ => none) j) := by
  intro j hj
  rw [cy_7 j hj]
  have h : j = 0 ∨ j = 1 ∨ j = 2 ∨ j = 3 ∨ j = 4 ∨ j = 5 ∨ j = 6 ∨ j = 7 ∨ j = 8 ∨ j = 9 ∨ j = 10 ∨ j = 11 ∨ j = 12 ∨ j = 13 ∨ j = 14 ∨ j = 15 ∨ j = 16 ∨ j = 17 ∨ j = 18 ∨ j = 19 ∨ j = 20 ∨ j = 21 ∨ j = 22 ∨ j = 23 ∨ j = 24 ∨ j = 25 ∨ j = 26 ∨ j = 27 ∨ j = 28 ∨ j = 29 ∨ j = 30 ∨ j = 31 ∨ j = 32 ∨ j = 33 ∨ j = 34 ∨ j = 35 ∨ j = 36 ∨ j = 37 ∨ j = 38 ∨ j = 39 ∨ j = 40 ∨ j = 41 ∨ j = 42 ∨ j = 43 ∨ j = 44 ∨ j = 45 ∨ j = 46 ∨ j = 47 ∨ j = 48 ∨ j = 49 ∨ j = 50 := by omega
  rcases h with rfl | rfl | rfl | rfl | rfl | rfl | rfl | rfl | rfl | rfl | rfl | rfl | rfl | rfl | rfl | rfl | rfl | rfl | rfl | rfl | rfl | rfl | rfl | rfl | rfl | rfl | rfl | rfl | rfl | rfl | rfl | rfl | rfl | rfl | rfl | rfl | rfl | rfl | rfl | rfl | rfl | rfl | rfl | rfl | rfl | rfl | rfl | rfl | rfl | rfl | rfl <;> rfl
theorem ni_7 : Cond.instantiable "FederationWireModel" 51 ∈ fw_WS := fw_in (fw_tb (i := 547) (by decide +kernel)) rfl
theorem nj_7 : Cond.initialized "FederationWireModel" ∈ fw_WS := fw_in (fw_tb (i := 8) (by decide +kernel)) rfl
theorem ob_1 : Cond.instanceMethod objectInit ∈ fw_WS := fw_in (fw_tb (i := 16) (by decide +kernel)) rfl
theorem ob_2 : Cond.code objectInit ⟨#[0xb1]⟩ 1 none ∈ fw_WS := fw_in (fw_tb (i := 17) (by decide +kernel)) rfl
theorem mmin_1 : Cond.static Lib.Math.min.name ∈ fw_WS := fw_in (fw_tb (i := 378) (by decide +kernel)) rfl
theorem mmin_2 : Cond.initialized "java/lang/Math" ∈ fw_WS := fw_in (fw_tb (i := 3) (by decide +kernel)) rfl
theorem mmin_3 : Cond.code Lib.Math.min.name Lib.Math.min.code 2 (some .int) ∈ fw_WS := fw_in (fw_tb (i := 379) (by decide +kernel)) rfl
theorem mmax_1 : Cond.static Lib.Math.max.name ∈ fw_WS := fw_in (fw_tb (i := 29) (by decide +kernel)) rfl
theorem mmax_2 : Cond.initialized "java/lang/Math" ∈ fw_WS := fw_in (fw_tb (i := 3) (by decide +kernel)) rfl
theorem mmax_3 : Cond.code Lib.Math.max.name Lib.Math.max.code 2 (some .int) ∈ fw_WS := fw_in (fw_tb (i := 30) (by decide +kernel)) rfl
theorem ac_int : Cond.arrayClass .int ∈ fw_WS := fw_in (fw_tb (i := 44) (by decide +kernel)) rfl
theorem ac_boolean : Cond.arrayClass .boolean ∈ fw_WS := fw_in (fw_tb (i := 160) (by decide +kernel)) rfl
def y_Frame_init : MethodName := ⟨"FederationWire$Frame", "<init>", "()V"⟩
theorem yi_Frame_init : Cond.instanceMethod y_Frame_init ∈ fw_WS := fw_in (fw_tb (i := 58) (by decide +kernel)) rfl
def y_Frame_begin : MethodName := ⟨"FederationWire$Frame", "begin", "(II)V"⟩
theorem yi_Frame_begin : Cond.instanceMethod y_Frame_begin ∈ fw_WS := fw_in (fw_tb (i := 370) (by decide +kernel)) rfl
theorem ys_Frame_begin : Cond.selects y_Frame_begin.cls y_Frame_begin y_Frame_begin ∈ fw_WS := fw_in (fw_tb (i := 371) (by decide +kernel)) rfl
def y_Frame_put : MethodName := ⟨"FederationWire$Frame", "put", "(I)V"⟩
theorem yi_Frame_put : Cond.instanceMethod y_Frame_put ∈ fw_WS := fw_in (fw_tb (i := 374) (by decide +kernel)) rfl
theorem ys_Frame_put : Cond.selects y_Frame_put.cls y_Frame_put y_Frame_put ∈ fw_WS := fw_in (fw_tb (i := 375) (by decide +kernel)) rfl
def y_Frame_byteAt : MethodName := ⟨"FederationWire$Frame", "byteAt", "(I)I"⟩
theorem yi_Frame_byteAt : Cond.instanceMethod y_Frame_byteAt ∈ fw_WS := fw_in (fw_tb (i := 234) (by decide +kernel)) rfl
theorem ys_Frame_byteAt : Cond.selects y_Frame_byteAt.cls y_Frame_byteAt y_Frame_byteAt ∈ fw_WS := fw_in (fw_tb (i := 235) (by decide +kernel)) rfl
def y_Frame_sum : MethodName := ⟨"FederationWire$Frame", "sum", "()I"⟩
theorem yi_Frame_sum : Cond.instanceMethod y_Frame_sum ∈ fw_WS := fw_in (fw_tb (i := 238) (by decide +kernel)) rfl
theorem ys_Frame_sum : Cond.selects y_Frame_sum.cls y_Frame_sum y_Frame_sum ∈ fw_WS := fw_in (fw_tb (i := 239) (by decide +kernel)) rfl
def y_Pairs_init : MethodName := ⟨"FederationWire$Pairs", "<init>", "(I)V"⟩
theorem yi_Pairs_init : Cond.instanceMethod y_Pairs_init ∈ fw_WS := fw_in (fw_tb (i := 25) (by decide +kernel)) rfl
def y_Memory_init : MethodName := ⟨"FederationWire$Memory", "<init>", "()V"⟩
theorem yi_Memory_init : Cond.instanceMethod y_Memory_init ∈ fw_WS := fw_in (fw_tb (i := 85) (by decide +kernel)) rfl
def y_Pairs_add : MethodName := ⟨"FederationWire$Pairs", "add", "(II)Z"⟩
theorem yi_Pairs_add : Cond.instanceMethod y_Pairs_add ∈ fw_WS := fw_in (fw_tb (i := 265) (by decide +kernel)) rfl
theorem ys_Pairs_add : Cond.selects y_Pairs_add.cls y_Pairs_add y_Pairs_add ∈ fw_WS := fw_in (fw_tb (i := 266) (by decide +kernel)) rfl
def y_Pairs_keyAt : MethodName := ⟨"FederationWire$Pairs", "keyAt", "(I)I"⟩
theorem yi_Pairs_keyAt : Cond.instanceMethod y_Pairs_keyAt ∈ fw_WS := fw_in (fw_tb (i := 283) (by decide +kernel)) rfl
theorem ys_Pairs_keyAt : Cond.selects y_Pairs_keyAt.cls y_Pairs_keyAt y_Pairs_keyAt ∈ fw_WS := fw_in (fw_tb (i := 284) (by decide +kernel)) rfl
def y_Pairs_valueAt : MethodName := ⟨"FederationWire$Pairs", "valueAt", "(I)I"⟩
theorem yi_Pairs_valueAt : Cond.instanceMethod y_Pairs_valueAt ∈ fw_WS := fw_in (fw_tb (i := 287) (by decide +kernel)) rfl
theorem ys_Pairs_valueAt : Cond.selects y_Pairs_valueAt.cls y_Pairs_valueAt y_Pairs_valueAt ∈ fw_WS := fw_in (fw_tb (i := 288) (by decide +kernel)) rfl
def y_Pairs_clear : MethodName := ⟨"FederationWire$Pairs", "clear", "()V"⟩
theorem yi_Pairs_clear : Cond.instanceMethod y_Pairs_clear ∈ fw_WS := fw_in (fw_tb (i := 354) (by decide +kernel)) rfl
theorem ys_Pairs_clear : Cond.selects y_Pairs_clear.cls y_Pairs_clear y_Pairs_clear ∈ fw_WS := fw_in (fw_tb (i := 355) (by decide +kernel)) rfl
def y_Request_addKey : MethodName := ⟨"FederationWire$Request", "addKey", "(I)V"⟩
theorem yi_Request_addKey : Cond.instanceMethod y_Request_addKey ∈ fw_WS := fw_in (fw_tb (i := 293) (by decide +kernel)) rfl
theorem ys_Request_addKey : Cond.selects y_Request_addKey.cls y_Request_addKey y_Request_addKey ∈ fw_WS := fw_in (fw_ts 6 (by decide +kernel)) rfl
def y_Request_hasKeysLeft : MethodName := ⟨"FederationWire$Request", "hasKeysLeft", "()Z"⟩
theorem yi_Request_hasKeysLeft : Cond.instanceMethod y_Request_hasKeysLeft ∈ fw_WS := fw_in (fw_tb (i := 358) (by decide +kernel)) rfl
theorem ys_Request_hasKeysLeft : Cond.selects y_Request_hasKeysLeft.cls y_Request_hasKeysLeft y_Request_hasKeysLeft ∈ fw_WS := fw_in (fw_tb (i := 359) (by decide +kernel)) rfl
def y_Request_nextStep : MethodName := ⟨"FederationWire$Request", "nextStep", "(I)V"⟩
theorem yi_Request_nextStep : Cond.instanceMethod y_Request_nextStep ∈ fw_WS := fw_in (fw_tb (i := 367) (by decide +kernel)) rfl
theorem ys_Request_nextStep : Cond.selects y_Request_nextStep.cls y_Request_nextStep y_Request_nextStep ∈ fw_WS := fw_in (fw_ts 7 (by decide +kernel)) rfl
def y_Request_writeAsk : MethodName := ⟨"FederationWire$Request", "writeAsk", "()V"⟩
theorem yi_Request_writeAsk : Cond.instanceMethod y_Request_writeAsk ∈ fw_WS := fw_in (fw_tb (i := 362) (by decide +kernel)) rfl
theorem ys_Request_writeAsk : Cond.selects y_Request_writeAsk.cls y_Request_writeAsk y_Request_writeAsk ∈ fw_WS := fw_in (fw_tb (i := 363) (by decide +kernel)) rfl
def y_Request_writeMore : MethodName := ⟨"FederationWire$Request", "writeMore", "()V"⟩
theorem yi_Request_writeMore : Cond.instanceMethod y_Request_writeMore ∈ fw_WS := fw_in (fw_tb (i := 466) (by decide +kernel)) rfl
theorem ys_Request_writeMore : Cond.selects y_Request_writeMore.cls y_Request_writeMore y_Request_writeMore ∈ fw_WS := fw_in (fw_tb (i := 467) (by decide +kernel)) rfl
def y_Request_waitsFor : MethodName := ⟨"FederationWire$Request", "waitsFor", "(LFederationWire$Frame;I)Z"⟩
theorem yi_Request_waitsFor : Cond.instanceMethod y_Request_waitsFor ∈ fw_WS := fw_in (fw_tb (i := 451) (by decide +kernel)) rfl
theorem ys_Request_waitsFor : Cond.selects y_Request_waitsFor.cls y_Request_waitsFor y_Request_waitsFor ∈ fw_WS := fw_in (fw_tb (i := 452) (by decide +kernel)) rfl
def y_Request_takeRows : MethodName := ⟨"FederationWire$Request", "takeRows", "(LFederationWire$Frame;)V"⟩
theorem yi_Request_takeRows : Cond.instanceMethod y_Request_takeRows ∈ fw_WS := fw_in (fw_tb (i := 461) (by decide +kernel)) rfl
theorem ys_Request_takeRows : Cond.selects y_Request_takeRows.cls y_Request_takeRows y_Request_takeRows ∈ fw_WS := fw_in (fw_tb (i := 462) (by decide +kernel)) rfl
def y_Request_fail : MethodName := ⟨"FederationWire$Request", "fail", "(I)V"⟩
theorem yi_Request_fail : Cond.instanceMethod y_Request_fail ∈ fw_WS := fw_in (fw_tb (i := 456) (by decide +kernel)) rfl
theorem ys_Request_fail : Cond.selects y_Request_fail.cls y_Request_fail y_Request_fail ∈ fw_WS := fw_in (fw_tb (i := 457) (by decide +kernel)) rfl
def y_Request_joinedSize : MethodName := ⟨"FederationWire$Request", "joinedSize", "()I"⟩
theorem yi_Request_joinedSize : Cond.instanceMethod y_Request_joinedSize ∈ fw_WS := fw_in (fw_tb (i := 509) (by decide +kernel)) rfl
theorem ys_Request_joinedSize : Cond.selects y_Request_joinedSize.cls y_Request_joinedSize y_Request_joinedSize ∈ fw_WS := fw_in (fw_tb (i := 510) (by decide +kernel)) rfl
def y_Request_silentPart : MethodName := ⟨"FederationWire$Request", "silentPart", "(IZ)I"⟩
theorem yi_Request_silentPart : Cond.instanceMethod y_Request_silentPart ∈ fw_WS := fw_in (fw_tb (i := 528) (by decide +kernel)) rfl
theorem ys_Request_silentPart : Cond.selects y_Request_silentPart.cls y_Request_silentPart y_Request_silentPart ∈ fw_WS := fw_in (fw_ts 23 (by decide +kernel)) rfl
def y_Request_joinedPart : MethodName := ⟨"FederationWire$Request", "joinedPart", "(IZ)I"⟩
theorem yi_Request_joinedPart : Cond.instanceMethod y_Request_joinedPart ∈ fw_WS := fw_in (fw_tb (i := 523) (by decide +kernel)) rfl
theorem ys_Request_joinedPart : Cond.selects y_Request_joinedPart.cls y_Request_joinedPart y_Request_joinedPart ∈ fw_WS := fw_in (fw_tb (i := 524) (by decide +kernel)) rfl
def y_ServingEnd_init : MethodName := ⟨"FederationWire$ServingEnd", "<init>", "()V"⟩
theorem yi_ServingEnd_init : Cond.instanceMethod y_ServingEnd_init ∈ fw_WS := fw_in (fw_tb (i := 48) (by decide +kernel)) rfl
def y_ServingEnd_memoryAt : MethodName := ⟨"FederationWire$ServingEnd", "memoryAt", "(I)LFederationWire$Memory;"⟩
theorem yi_ServingEnd_memoryAt : Cond.instanceMethod y_ServingEnd_memoryAt ∈ fw_WS := fw_in (fw_tb (i := 420) (by decide +kernel)) rfl
theorem ys_ServingEnd_memoryAt : Cond.selects y_ServingEnd_memoryAt.cls y_ServingEnd_memoryAt y_ServingEnd_memoryAt ∈ fw_WS := fw_in (fw_ts 14 (by decide +kernel)) rfl
def y_ServingEnd_placeOf : MethodName := ⟨"FederationWire$ServingEnd", "placeOf", "(I)I"⟩
theorem yi_ServingEnd_placeOf : Cond.instanceMethod y_ServingEnd_placeOf ∈ fw_WS := fw_in (fw_tb (i := 416) (by decide +kernel)) rfl
theorem ys_ServingEnd_placeOf : Cond.selects y_ServingEnd_placeOf.cls y_ServingEnd_placeOf y_ServingEnd_placeOf ∈ fw_WS := fw_in (fw_ts 13 (by decide +kernel)) rfl
def y_ServingEnd_memoryFor : MethodName := ⟨"FederationWire$ServingEnd", "memoryFor", "(I)LFederationWire$Memory;"⟩
theorem yi_ServingEnd_memoryFor : Cond.instanceMethod y_ServingEnd_memoryFor ∈ fw_WS := fw_in (fw_tb (i := 425) (by decide +kernel)) rfl
theorem ys_ServingEnd_memoryFor : Cond.selects y_ServingEnd_memoryFor.cls y_ServingEnd_memoryFor y_ServingEnd_memoryFor ∈ fw_WS := fw_in (fw_ts 15 (by decide +kernel)) rfl
def y_ServingEnd_remember : MethodName := ⟨"FederationWire$ServingEnd", "remember", "(LFederationWire$Memory;LFederationWire$Frame;)V"⟩
theorem yi_ServingEnd_remember : Cond.instanceMethod y_ServingEnd_remember ∈ fw_WS := fw_in (fw_tb (i := 429) (by decide +kernel)) rfl
theorem ys_ServingEnd_remember : Cond.selects y_ServingEnd_remember.cls y_ServingEnd_remember y_ServingEnd_remember ∈ fw_WS := fw_in (fw_ts 16 (by decide +kernel)) rfl
def y_ServingEnd_writeRows : MethodName := ⟨"FederationWire$ServingEnd", "writeRows", "(LFederationWire$Memory;II)V"⟩
theorem yi_ServingEnd_writeRows : Cond.instanceMethod y_ServingEnd_writeRows ∈ fw_WS := fw_in (fw_tb (i := 437) (by decide +kernel)) rfl
theorem ys_ServingEnd_writeRows : Cond.selects y_ServingEnd_writeRows.cls y_ServingEnd_writeRows y_ServingEnd_writeRows ∈ fw_WS := fw_in (fw_ts 17 (by decide +kernel)) rfl
def y_ServingEnd_answerAsk : MethodName := ⟨"FederationWire$ServingEnd", "answerAsk", "(LFederationWire$Frame;)V"⟩
theorem yi_ServingEnd_answerAsk : Cond.instanceMethod y_ServingEnd_answerAsk ∈ fw_WS := fw_in (fw_tb (i := 411) (by decide +kernel)) rfl
theorem ys_ServingEnd_answerAsk : Cond.selects y_ServingEnd_answerAsk.cls y_ServingEnd_answerAsk y_ServingEnd_answerAsk ∈ fw_WS := fw_in (fw_tb (i := 412) (by decide +kernel)) rfl
def y_ServingEnd_answerMore : MethodName := ⟨"FederationWire$ServingEnd", "answerMore", "(LFederationWire$Frame;)V"⟩
theorem yi_ServingEnd_answerMore : Cond.instanceMethod y_ServingEnd_answerMore ∈ fw_WS := fw_in (fw_tb (i := 443) (by decide +kernel)) rfl
theorem ys_ServingEnd_answerMore : Cond.selects y_ServingEnd_answerMore.cls y_ServingEnd_answerMore y_ServingEnd_answerMore ∈ fw_WS := fw_in (fw_tb (i := 444) (by decide +kernel)) rfl
def y_Wire_init : MethodName := ⟨"FederationWire$Wire", "<init>", "(Z)V"⟩
theorem yi_Wire_init : Cond.instanceMethod y_Wire_init ∈ fw_WS := fw_in (fw_tb (i := 129) (by decide +kernel)) rfl
def y_Wire_clearOut : MethodName := ⟨"FederationWire$Wire", "clearOut", "()V"⟩
theorem yi_Wire_clearOut : Cond.instanceMethod y_Wire_clearOut ∈ fw_WS := fw_in (fw_tb (i := 250) (by decide +kernel)) rfl
theorem ys_Wire_clearOut : Cond.selects y_Wire_clearOut.cls y_Wire_clearOut y_Wire_clearOut ∈ fw_WS := fw_in (fw_tb (i := 251) (by decide +kernel)) rfl
def y_Wire_end : MethodName := ⟨"FederationWire$Wire", "end", "()V"⟩
theorem yi_Wire_end : Cond.instanceMethod y_Wire_end ∈ fw_WS := fw_in (fw_tb (i := 246) (by decide +kernel)) rfl
theorem ys_Wire_end : Cond.selects y_Wire_end.cls y_Wire_end y_Wire_end ∈ fw_WS := fw_in (fw_tb (i := 247) (by decide +kernel)) rfl
def y_Wire_push : MethodName := ⟨"FederationWire$Wire", "push", "(I)V"⟩
theorem yi_Wire_push : Cond.instanceMethod y_Wire_push ∈ fw_WS := fw_in (fw_tb (i := 231) (by decide +kernel)) rfl
theorem ys_Wire_push : Cond.selects y_Wire_push.cls y_Wire_push y_Wire_push ∈ fw_WS := fw_in (fw_ts 5 (by decide +kernel)) rfl
def y_Wire_takeFirst : MethodName := ⟨"FederationWire$Wire", "takeFirst", "()I"⟩
theorem yi_Wire_takeFirst : Cond.instanceMethod y_Wire_takeFirst ∈ fw_WS := fw_in (fw_tb (i := 478) (by decide +kernel)) rfl
theorem ys_Wire_takeFirst : Cond.selects y_Wire_takeFirst.cls y_Wire_takeFirst y_Wire_takeFirst ∈ fw_WS := fw_in (fw_tb (i := 479) (by decide +kernel)) rfl
def y_Wire_lengthSuits : MethodName := ⟨"FederationWire$Wire", "lengthSuits", "(I)Z"⟩
theorem yi_Wire_lengthSuits : Cond.instanceMethod y_Wire_lengthSuits ∈ fw_WS := fw_in (fw_tb (i := 398) (by decide +kernel)) rfl
theorem ys_Wire_lengthSuits : Cond.selects y_Wire_lengthSuits.cls y_Wire_lengthSuits y_Wire_lengthSuits ∈ fw_WS := fw_in (fw_ts 10 (by decide +kernel)) rfl
def y_Wire_suits : MethodName := ⟨"FederationWire$Wire", "suits", "(I)Z"⟩
theorem yi_Wire_suits : Cond.instanceMethod y_Wire_suits ∈ fw_WS := fw_in (fw_tb (i := 394) (by decide +kernel)) rfl
theorem ys_Wire_suits : Cond.selects y_Wire_suits.cls y_Wire_suits y_Wire_suits ∈ fw_WS := fw_in (fw_ts 9 (by decide +kernel)) rfl
def y_Wire_keep : MethodName := ⟨"FederationWire$Wire", "keep", "(I)V"⟩
theorem yi_Wire_keep : Cond.instanceMethod y_Wire_keep ∈ fw_WS := fw_in (fw_tb (i := 402) (by decide +kernel)) rfl
theorem ys_Wire_keep : Cond.selects y_Wire_keep.cls y_Wire_keep y_Wire_keep ∈ fw_WS := fw_in (fw_ts 11 (by decide +kernel)) rfl
def y_Wire_accept : MethodName := ⟨"FederationWire$Wire", "accept", "(I)I"⟩
theorem yi_Wire_accept : Cond.instanceMethod y_Wire_accept ∈ fw_WS := fw_in (fw_tb (i := 389) (by decide +kernel)) rfl
theorem ys_Wire_accept : Cond.selects y_Wire_accept.cls y_Wire_accept y_Wire_accept ∈ fw_WS := fw_in (fw_tb (i := 390) (by decide +kernel)) rfl
def y_FW_init : MethodName := ⟨"FederationWire", "<init>", "()V"⟩
theorem yi_FW_init : Cond.instanceMethod y_FW_init ∈ fw_WS := fw_in (fw_tb (i := 13) (by decide +kernel)) rfl
def y_FW_wireAt : MethodName := ⟨"FederationWire", "wireAt", "(I)LFederationWire$Wire;"⟩
theorem yi_FW_wireAt : Cond.instanceMethod y_FW_wireAt ∈ fw_WS := fw_in (fw_tb (i := 211) (by decide +kernel)) rfl
theorem ys_FW_wireAt : Cond.selects y_FW_wireAt.cls y_FW_wireAt y_FW_wireAt ∈ fw_WS := fw_in (fw_ts 1 (by decide +kernel)) rfl
def y_FW_houseWire : MethodName := ⟨"FederationWire", "houseWire", "(I)LFederationWire$Wire;"⟩
theorem yi_FW_houseWire : Cond.instanceMethod y_FW_houseWire ∈ fw_WS := fw_in (fw_tb (i := 207) (by decide +kernel)) rfl
theorem ys_FW_houseWire : Cond.selects y_FW_houseWire.cls y_FW_houseWire y_FW_houseWire ∈ fw_WS := fw_in (fw_ts 0 (by decide +kernel)) rfl
def y_FW_requestAt : MethodName := ⟨"FederationWire", "requestAt", "(I)LFederationWire$Request;"⟩
theorem yi_FW_requestAt : Cond.instanceMethod y_FW_requestAt ∈ fw_WS := fw_in (fw_tb (i := 215) (by decide +kernel)) rfl
theorem ys_FW_requestAt : Cond.selects y_FW_requestAt.cls y_FW_requestAt y_FW_requestAt ∈ fw_WS := fw_in (fw_ts 2 (by decide +kernel)) rfl
def y_Wire_send : MethodName := ⟨"FederationWire$Wire", "send", "(LFederationWire$Frame;)Z"⟩
theorem yi_Wire_send : Cond.instanceMethod y_Wire_send ∈ fw_WS := fw_in (fw_tb (i := 226) (by decide +kernel)) rfl
theorem ys_Wire_send : Cond.selects y_Wire_send.cls y_Wire_send y_Wire_send ∈ fw_WS := fw_in (fw_tb (i := 227) (by decide +kernel)) rfl
def y_FW_send : MethodName := ⟨"FederationWire", "send", "(LFederationWire$Frame;LFederationWire$Wire;)Z"⟩
theorem yi_FW_send : Cond.instanceMethod y_FW_send ∈ fw_WS := fw_in (fw_tb (i := 223) (by decide +kernel)) rfl
theorem ys_FW_send : Cond.selects y_FW_send.cls y_FW_send y_FW_send ∈ fw_WS := fw_in (fw_ts 4 (by decide +kernel)) rfl
def y_FW_sendFirst : MethodName := ⟨"FederationWire", "sendFirst", "(LFederationWire$Request;LFederationWire$Wire;)Z"⟩
theorem yi_FW_sendFirst : Cond.instanceMethod y_FW_sendFirst ∈ fw_WS := fw_in (fw_tb (i := 219) (by decide +kernel)) rfl
theorem ys_FW_sendFirst : Cond.selects y_FW_sendFirst.cls y_FW_sendFirst y_FW_sendFirst ∈ fw_WS := fw_in (fw_ts 3 (by decide +kernel)) rfl
def y_FW_up : MethodName := ⟨"FederationWire", "up", "(I)I"⟩
theorem yi_FW_up : Cond.instanceMethod y_FW_up ∈ fw_WS := fw_in (fw_tb (i := 202) (by decide +kernel)) rfl
theorem ys_FW_up : Cond.selects y_FW_up.cls y_FW_up y_FW_up ∈ fw_WS := fw_in (fw_tb (i := 203) (by decide +kernel)) rfl
def y_FW_down : MethodName := ⟨"FederationWire", "down", "(I)I"⟩
theorem yi_FW_down : Cond.instanceMethod y_FW_down ∈ fw_WS := fw_in (fw_tb (i := 242) (by decide +kernel)) rfl
theorem ys_FW_down : Cond.selects y_FW_down.cls y_FW_down y_FW_down ∈ fw_WS := fw_in (fw_tb (i := 243) (by decide +kernel)) rfl
def y_FW_setting : MethodName := ⟨"FederationWire", "setting", "(II)I"⟩
theorem yi_FW_setting : Cond.instanceMethod y_FW_setting ∈ fw_WS := fw_in (fw_tb (i := 254) (by decide +kernel)) rfl
theorem ys_FW_setting : Cond.selects y_FW_setting.cls y_FW_setting y_FW_setting ∈ fw_WS := fw_in (fw_tb (i := 255) (by decide +kernel)) rfl
def y_FW_isByte : MethodName := ⟨"FederationWire", "isByte", "(I)Z"⟩
theorem yt_FW_isByte : Cond.static y_FW_isByte ∈ fw_WS := fw_in (fw_tb (i := 262) (by decide +kernel)) rfl
def y_FW_bind : MethodName := ⟨"FederationWire", "bind", "(II)I"⟩
theorem yi_FW_bind : Cond.instanceMethod y_FW_bind ∈ fw_WS := fw_in (fw_tb (i := 258) (by decide +kernel)) rfl
theorem ys_FW_bind : Cond.selects y_FW_bind.cls y_FW_bind y_FW_bind ∈ fw_WS := fw_in (fw_tb (i := 259) (by decide +kernel)) rfl
def y_Request_init : MethodName := ⟨"FederationWire$Request", "<init>", "(IIZILFederationWire$Pairs;)V"⟩
theorem yi_Request_init : Cond.instanceMethod y_Request_init ∈ fw_WS := fw_in (fw_tb (i := 274) (by decide +kernel)) rfl
def y_FW_ask : MethodName := ⟨"FederationWire", "ask", "(IZ)I"⟩
theorem yi_FW_ask : Cond.instanceMethod y_FW_ask ∈ fw_WS := fw_in (fw_tb (i := 269) (by decide +kernel)) rfl
theorem ys_FW_ask : Cond.selects y_FW_ask.cls y_FW_ask y_FW_ask ∈ fw_WS := fw_in (fw_tb (i := 270) (by decide +kernel)) rfl
def y_FW_learn : MethodName := ⟨"FederationWire", "learn", "(LFederationWire$Request;)V"⟩
theorem yi_FW_learn : Cond.instanceMethod y_FW_learn ∈ fw_WS := fw_in (fw_tb (i := 471) (by decide +kernel)) rfl
theorem ys_FW_learn : Cond.selects y_FW_learn.cls y_FW_learn y_FW_learn ∈ fw_WS := fw_in (fw_ts 19 (by decide +kernel)) rfl
def y_FW_hear : MethodName := ⟨"FederationWire", "hear", "(LFederationWire$Frame;ILFederationWire$Wire;)Z"⟩
theorem yi_FW_hear : Cond.instanceMethod y_FW_hear ∈ fw_WS := fw_in (fw_tb (i := 448) (by decide +kernel)) rfl
theorem ys_FW_hear : Cond.selects y_FW_hear.cls y_FW_hear y_FW_hear ∈ fw_WS := fw_in (fw_ts 18 (by decide +kernel)) rfl
def y_FW_serve : MethodName := ⟨"FederationWire", "serve", "(LFederationWire$Frame;LFederationWire$Wire;)Z"⟩
theorem yi_FW_serve : Cond.instanceMethod y_FW_serve ∈ fw_WS := fw_in (fw_tb (i := 408) (by decide +kernel)) rfl
theorem ys_FW_serve : Cond.selects y_FW_serve.cls y_FW_serve y_FW_serve ∈ fw_WS := fw_in (fw_ts 12 (by decide +kernel)) rfl
def y_FW_take : MethodName := ⟨"FederationWire", "take", "(ILFederationWire$Wire;I)I"⟩
theorem yi_FW_take : Cond.instanceMethod y_FW_take ∈ fw_WS := fw_in (fw_tb (i := 386) (by decide +kernel)) rfl
theorem ys_FW_take : Cond.selects y_FW_take.cls y_FW_take y_FW_take ∈ fw_WS := fw_in (fw_ts 8 (by decide +kernel)) rfl
def y_FW_octet : MethodName := ⟨"FederationWire", "octet", "(IB)I"⟩
theorem yi_FW_octet : Cond.instanceMethod y_FW_octet ∈ fw_WS := fw_in (fw_tb (i := 381) (by decide +kernel)) rfl
theorem ys_FW_octet : Cond.selects y_FW_octet.cls y_FW_octet y_FW_octet ∈ fw_WS := fw_in (fw_tb (i := 382) (by decide +kernel)) rfl
def y_FW_out : MethodName := ⟨"FederationWire", "out", "(I)I"⟩
theorem yi_FW_out : Cond.instanceMethod y_FW_out ∈ fw_WS := fw_in (fw_tb (i := 474) (by decide +kernel)) rfl
theorem ys_FW_out : Cond.selects y_FW_out.cls y_FW_out y_FW_out ∈ fw_WS := fw_in (fw_tb (i := 475) (by decide +kernel)) rfl
def y_FW_loop : MethodName := ⟨"FederationWire", "loop", "(II)I"⟩
theorem yi_FW_loop : Cond.instanceMethod y_FW_loop ∈ fw_WS := fw_in (fw_tb (i := 482) (by decide +kernel)) rfl
theorem ys_FW_loop : Cond.selects y_FW_loop.cls y_FW_loop y_FW_loop ∈ fw_WS := fw_in (fw_tb (i := 483) (by decide +kernel)) rfl
def y_FW_earliestDue : MethodName := ⟨"FederationWire", "earliestDue", "()I"⟩
theorem yi_FW_earliestDue : Cond.instanceMethod y_FW_earliestDue ∈ fw_WS := fw_in (fw_tb (i := 493) (by decide +kernel)) rfl
theorem ys_FW_earliestDue : Cond.selects y_FW_earliestDue.cls y_FW_earliestDue y_FW_earliestDue ∈ fw_WS := fw_in (fw_ts 20 (by decide +kernel)) rfl
def y_FW_repeat : MethodName := ⟨"FederationWire", "repeat", "(LFederationWire$Request;)V"⟩
theorem yi_FW_repeat : Cond.instanceMethod y_FW_repeat ∈ fw_WS := fw_in (fw_tb (i := 502) (by decide +kernel)) rfl
theorem ys_FW_repeat : Cond.selects y_FW_repeat.cls y_FW_repeat y_FW_repeat ∈ fw_WS := fw_in (fw_ts 22 (by decide +kernel)) rfl
def y_FW_settleDue : MethodName := ⟨"FederationWire", "settleDue", "()I"⟩
theorem yi_FW_settleDue : Cond.instanceMethod y_FW_settleDue ∈ fw_WS := fw_in (fw_tb (i := 498) (by decide +kernel)) rfl
theorem ys_FW_settleDue : Cond.selects y_FW_settleDue.cls y_FW_settleDue y_FW_settleDue ∈ fw_WS := fw_in (fw_ts 21 (by decide +kernel)) rfl
def y_FW_tick : MethodName := ⟨"FederationWire", "tick", "(I)I"⟩
theorem yi_FW_tick : Cond.instanceMethod y_FW_tick ∈ fw_WS := fw_in (fw_tb (i := 488) (by decide +kernel)) rfl
theorem ys_FW_tick : Cond.selects y_FW_tick.cls y_FW_tick y_FW_tick ∈ fw_WS := fw_in (fw_tb (i := 489) (by decide +kernel)) rfl
def y_FW_told : MethodName := ⟨"FederationWire", "told", "(II)I"⟩
theorem yi_FW_told : Cond.instanceMethod y_FW_told ∈ fw_WS := fw_in (fw_tb (i := 505) (by decide +kernel)) rfl
theorem ys_FW_told : Cond.selects y_FW_told.cls y_FW_told y_FW_told ∈ fw_WS := fw_in (fw_tb (i := 506) (by decide +kernel)) rfl
def y_FW_row : MethodName := ⟨"FederationWire", "row", "(III)I"⟩
theorem yi_FW_row : Cond.instanceMethod y_FW_row ∈ fw_WS := fw_in (fw_tb (i := 513) (by decide +kernel)) rfl
theorem ys_FW_row : Cond.selects y_FW_row.cls y_FW_row y_FW_row ∈ fw_WS := fw_in (fw_tb (i := 514) (by decide +kernel)) rfl
def y_FW_joined : MethodName := ⟨"FederationWire", "joined", "(III)I"⟩
theorem yi_FW_joined : Cond.instanceMethod y_FW_joined ∈ fw_WS := fw_in (fw_tb (i := 519) (by decide +kernel)) rfl
theorem ys_FW_joined : Cond.selects y_FW_joined.cls y_FW_joined y_FW_joined ∈ fw_WS := fw_in (fw_tb (i := 520) (by decide +kernel)) rfl
def y_FW_estimate : MethodName := ⟨"FederationWire", "estimate", "(I)I"⟩
theorem yi_FW_estimate : Cond.instanceMethod y_FW_estimate ∈ fw_WS := fw_in (fw_tb (i := 531) (by decide +kernel)) rfl
theorem ys_FW_estimate : Cond.selects y_FW_estimate.cls y_FW_estimate y_FW_estimate ∈ fw_WS := fw_in (fw_tb (i := 532) (by decide +kernel)) rfl
def y_FW_fact : MethodName := ⟨"FederationWire", "fact", "(II)I"⟩
theorem yi_FW_fact : Cond.instanceMethod y_FW_fact ∈ fw_WS := fw_in (fw_tb (i := 535) (by decide +kernel)) rfl
theorem ys_FW_fact : Cond.selects y_FW_fact.cls y_FW_fact y_FW_fact ∈ fw_WS := fw_in (fw_tb (i := 536) (by decide +kernel)) rfl
def y_FW_count : MethodName := ⟨"FederationWire", "count", "(I)I"⟩
theorem yi_FW_count : Cond.instanceMethod y_FW_count ∈ fw_WS := fw_in (fw_tb (i := 539) (by decide +kernel)) rfl
theorem ys_FW_count : Cond.selects y_FW_count.cls y_FW_count y_FW_count ∈ fw_WS := fw_in (fw_tb (i := 540) (by decide +kernel)) rfl
def y_FW_line : MethodName := ⟨"FederationWire", "line", "(II)I"⟩
theorem yi_FW_line : Cond.instanceMethod y_FW_line ∈ fw_WS := fw_in (fw_tb (i := 543) (by decide +kernel)) rfl
theorem ys_FW_line : Cond.selects y_FW_line.cls y_FW_line y_FW_line ∈ fw_WS := fw_in (fw_tb (i := 544) (by decide +kernel)) rfl
def y_Mo_init : MethodName := ⟨"FederationWireModel", "<init>", "()V"⟩
theorem yi_Mo_init : Cond.instanceMethod y_Mo_init ∈ fw_WS := fw_in (fw_tb (i := 549) (by decide +kernel)) rfl
def y_Mo_isIn : MethodName := ⟨"FederationWireModel", "isIn", "(III)Z"⟩
theorem yt_Mo_isIn : Cond.static y_Mo_isIn ∈ fw_WS := fw_in (fw_tb (i := 711) (by decide +kernel)) rfl
def y_Mo_send : MethodName := ⟨"FederationWireModel", "send", "(III)Z"⟩
theorem yi_Mo_send : Cond.instanceMethod y_Mo_send ∈ fw_WS := fw_in (fw_tb (i := 743) (by decide +kernel)) rfl
theorem ys_Mo_send : Cond.selects y_Mo_send.cls y_Mo_send y_Mo_send ∈ fw_WS := fw_in (fw_ts 29 (by decide +kernel)) rfl
def y_Mo_put : MethodName := ⟨"FederationWireModel", "put", "(I)V"⟩
theorem yi_Mo_put : Cond.instanceMethod y_Mo_put ∈ fw_WS := fw_in (fw_tb (i := 731) (by decide +kernel)) rfl
theorem ys_Mo_put : Cond.selects y_Mo_put.cls y_Mo_put y_Mo_put ∈ fw_WS := fw_in (fw_ts 26 (by decide +kernel)) rfl
def y_Mo_sendLast : MethodName := ⟨"FederationWireModel", "sendLast", "(I)Z"⟩
theorem yi_Mo_sendLast : Cond.instanceMethod y_Mo_sendLast ∈ fw_WS := fw_in (fw_tb (i := 739) (by decide +kernel)) rfl
theorem ys_Mo_sendLast : Cond.selects y_Mo_sendLast.cls y_Mo_sendLast y_Mo_sendLast ∈ fw_WS := fw_in (fw_ts 28 (by decide +kernel)) rfl
def y_Mo_keep : MethodName := ⟨"FederationWireModel", "keep", "(II)V"⟩
theorem yi_Mo_keep : Cond.instanceMethod y_Mo_keep ∈ fw_WS := fw_in (fw_tb (i := 735) (by decide +kernel)) rfl
theorem ys_Mo_keep : Cond.selects y_Mo_keep.cls y_Mo_keep y_Mo_keep ∈ fw_WS := fw_in (fw_ts 27 (by decide +kernel)) rfl
def y_Mo_askPart : MethodName := ⟨"FederationWireModel", "askPart", "(I)V"⟩
theorem yi_Mo_askPart : Cond.instanceMethod y_Mo_askPart ∈ fw_WS := fw_in (fw_tb (i := 727) (by decide +kernel)) rfl
theorem ys_Mo_askPart : Cond.selects y_Mo_askPart.cls y_Mo_askPart y_Mo_askPart ∈ fw_WS := fw_in (fw_ts 25 (by decide +kernel)) rfl
def y_Mo_finish : MethodName := ⟨"FederationWireModel", "finish", "(I)V"⟩
theorem yi_Mo_finish : Cond.instanceMethod y_Mo_finish ∈ fw_WS := fw_in (fw_tb (i := 802) (by decide +kernel)) rfl
theorem ys_Mo_finish : Cond.selects y_Mo_finish.cls y_Mo_finish y_Mo_finish ∈ fw_WS := fw_in (fw_ts 41 (by decide +kernel)) rfl
def y_Mo_fail : MethodName := ⟨"FederationWireModel", "fail", "(II)V"⟩
theorem yi_Mo_fail : Cond.instanceMethod y_Mo_fail ∈ fw_WS := fw_in (fw_tb (i := 798) (by decide +kernel)) rfl
theorem ys_Mo_fail : Cond.selects y_Mo_fail.cls y_Mo_fail y_Mo_fail ∈ fw_WS := fw_in (fw_ts 40 (by decide +kernel)) rfl
def y_Mo_isFailedSilently : MethodName := ⟨"FederationWireModel", "isFailedSilently", "(I)Z"⟩
theorem yi_Mo_isFailedSilently : Cond.instanceMethod y_Mo_isFailedSilently ∈ fw_WS := fw_in (fw_tb (i := 838) (by decide +kernel)) rfl
theorem ys_Mo_isFailedSilently : Cond.selects y_Mo_isFailedSilently.cls y_Mo_isFailedSilently y_Mo_isFailedSilently ∈ fw_WS := fw_in (fw_ts 44 (by decide +kernel)) rfl
def y_Mo_setting : MethodName := ⟨"FederationWireModel", "setting", "(II)I"⟩
theorem yi_Mo_setting : Cond.instanceMethod y_Mo_setting ∈ fw_WS := fw_in (fw_tb (i := 707) (by decide +kernel)) rfl
theorem ys_Mo_setting : Cond.selects y_Mo_setting.cls y_Mo_setting y_Mo_setting ∈ fw_WS := fw_in (fw_tb (i := 708) (by decide +kernel)) rfl
def y_Mo_bind : MethodName := ⟨"FederationWireModel", "bind", "(II)I"⟩
theorem yi_Mo_bind : Cond.instanceMethod y_Mo_bind ∈ fw_WS := fw_in (fw_tb (i := 714) (by decide +kernel)) rfl
theorem ys_Mo_bind : Cond.selects y_Mo_bind.cls y_Mo_bind y_Mo_bind ∈ fw_WS := fw_in (fw_tb (i := 715) (by decide +kernel)) rfl
def y_Mo_addKey : MethodName := ⟨"FederationWireModel", "addKey", "(II)V"⟩
theorem yi_Mo_addKey : Cond.instanceMethod y_Mo_addKey ∈ fw_WS := fw_in (fw_tb (i := 723) (by decide +kernel)) rfl
theorem ys_Mo_addKey : Cond.selects y_Mo_addKey.cls y_Mo_addKey y_Mo_addKey ∈ fw_WS := fw_in (fw_ts 24 (by decide +kernel)) rfl
def y_Mo_ask : MethodName := ⟨"FederationWireModel", "ask", "(IZ)I"⟩
theorem yi_Mo_ask : Cond.instanceMethod y_Mo_ask ∈ fw_WS := fw_in (fw_tb (i := 718) (by decide +kernel)) rfl
theorem ys_Mo_ask : Cond.selects y_Mo_ask.cls y_Mo_ask y_Mo_ask ∈ fw_WS := fw_in (fw_tb (i := 719) (by decide +kernel)) rfl
def y_Mo_isDropped : MethodName := ⟨"FederationWireModel", "isDropped", "(IIII)Z"⟩
theorem yi_Mo_isDropped : Cond.instanceMethod y_Mo_isDropped ∈ fw_WS := fw_in (fw_tb (i := 794) (by decide +kernel)) rfl
theorem ys_Mo_isDropped : Cond.selects y_Mo_isDropped.cls y_Mo_isDropped y_Mo_isDropped ∈ fw_WS := fw_in (fw_ts 39 (by decide +kernel)) rfl
def y_Mo_fact : MethodName := ⟨"FederationWireModel", "fact", "(II)I"⟩
theorem yi_Mo_fact : Cond.instanceMethod y_Mo_fact ∈ fw_WS := fw_in (fw_tb (i := 746) (by decide +kernel)) rfl
theorem ys_Mo_fact : Cond.selects y_Mo_fact.cls y_Mo_fact y_Mo_fact ∈ fw_WS := fw_in (fw_tb (i := 747) (by decide +kernel)) rfl
def y_Mo_placeOf : MethodName := ⟨"FederationWireModel", "placeOf", "(I)I"⟩
theorem yi_Mo_placeOf : Cond.instanceMethod y_Mo_placeOf ∈ fw_WS := fw_in (fw_tb (i := 774) (by decide +kernel)) rfl
theorem ys_Mo_placeOf : Cond.selects y_Mo_placeOf.cls y_Mo_placeOf y_Mo_placeOf ∈ fw_WS := fw_in (fw_ts 34 (by decide +kernel)) rfl
def y_Mo_copy : MethodName := ⟨"FederationWireModel", "copy", "(II)V"⟩
theorem yi_Mo_copy : Cond.instanceMethod y_Mo_copy ∈ fw_WS := fw_in (fw_tb (i := 786) (by decide +kernel)) rfl
theorem ys_Mo_copy : Cond.selects y_Mo_copy.cls y_Mo_copy y_Mo_copy ∈ fw_WS := fw_in (fw_ts 37 (by decide +kernel)) rfl
def y_Mo_forget : MethodName := ⟨"FederationWireModel", "forget", "(I)V"⟩
theorem yi_Mo_forget : Cond.instanceMethod y_Mo_forget ∈ fw_WS := fw_in (fw_tb (i := 782) (by decide +kernel)) rfl
theorem ys_Mo_forget : Cond.selects y_Mo_forget.cls y_Mo_forget y_Mo_forget ∈ fw_WS := fw_in (fw_ts 36 (by decide +kernel)) rfl
def y_Mo_answer : MethodName := ⟨"FederationWireModel", "answer", "(IIII)V"⟩
theorem yi_Mo_answer : Cond.instanceMethod y_Mo_answer ∈ fw_WS := fw_in (fw_tb (i := 790) (by decide +kernel)) rfl
theorem ys_Mo_answer : Cond.selects y_Mo_answer.cls y_Mo_answer y_Mo_answer ∈ fw_WS := fw_in (fw_ts 38 (by decide +kernel)) rfl
def y_Mo_remember : MethodName := ⟨"FederationWireModel", "remember", "(II)V"⟩
theorem yi_Mo_remember : Cond.instanceMethod y_Mo_remember ∈ fw_WS := fw_in (fw_tb (i := 778) (by decide +kernel)) rfl
theorem ys_Mo_remember : Cond.selects y_Mo_remember.cls y_Mo_remember y_Mo_remember ∈ fw_WS := fw_in (fw_ts 35 (by decide +kernel)) rfl
def y_Mo_isServed : MethodName := ⟨"FederationWireModel", "isServed", "(III)Z"⟩
theorem yi_Mo_isServed : Cond.instanceMethod y_Mo_isServed ∈ fw_WS := fw_in (fw_tb (i := 770) (by decide +kernel)) rfl
theorem ys_Mo_isServed : Cond.selects y_Mo_isServed.cls y_Mo_isServed y_Mo_isServed ∈ fw_WS := fw_in (fw_ts 33 (by decide +kernel)) rfl
def y_Mo_end : MethodName := ⟨"FederationWireModel", "end", "(I)V"⟩
theorem yi_Mo_end : Cond.instanceMethod y_Mo_end ∈ fw_WS := fw_in (fw_tb (i := 766) (by decide +kernel)) rfl
theorem ys_Mo_end : Cond.selects y_Mo_end.cls y_Mo_end y_Mo_end ∈ fw_WS := fw_in (fw_ts 32 (by decide +kernel)) rfl
def y_Mo_isLength : MethodName := ⟨"FederationWireModel", "isLength", "(II)Z"⟩
theorem yt_Mo_isLength : Cond.static y_Mo_isLength ∈ fw_WS := fw_in (fw_tb (i := 762) (by decide +kernel)) rfl
def y_Mo_fits : MethodName := ⟨"FederationWireModel", "fits", "(III)Z"⟩
theorem yi_Mo_fits : Cond.instanceMethod y_Mo_fits ∈ fw_WS := fw_in (fw_tb (i := 759) (by decide +kernel)) rfl
theorem ys_Mo_fits : Cond.selects y_Mo_fits.cls y_Mo_fits y_Mo_fits ∈ fw_WS := fw_in (fw_ts 31 (by decide +kernel)) rfl
def y_Mo_come : MethodName := ⟨"FederationWireModel", "come", "(II)I"⟩
theorem yi_Mo_come : Cond.instanceMethod y_Mo_come ∈ fw_WS := fw_in (fw_tb (i := 755) (by decide +kernel)) rfl
theorem ys_Mo_come : Cond.selects y_Mo_come.cls y_Mo_come y_Mo_come ∈ fw_WS := fw_in (fw_ts 30 (by decide +kernel)) rfl
def y_Mo_octet : MethodName := ⟨"FederationWireModel", "octet", "(IB)I"⟩
theorem yi_Mo_octet : Cond.instanceMethod y_Mo_octet ∈ fw_WS := fw_in (fw_tb (i := 750) (by decide +kernel)) rfl
theorem ys_Mo_octet : Cond.selects y_Mo_octet.cls y_Mo_octet y_Mo_octet ∈ fw_WS := fw_in (fw_tb (i := 751) (by decide +kernel)) rfl
def y_Mo_takeOut : MethodName := ⟨"FederationWireModel", "takeOut", "(I)I"⟩
theorem yi_Mo_takeOut : Cond.instanceMethod y_Mo_takeOut ∈ fw_WS := fw_in (fw_tb (i := 810) (by decide +kernel)) rfl
theorem ys_Mo_takeOut : Cond.selects y_Mo_takeOut.cls y_Mo_takeOut y_Mo_takeOut ∈ fw_WS := fw_in (fw_ts 42 (by decide +kernel)) rfl
def y_Mo_out : MethodName := ⟨"FederationWireModel", "out", "(I)I"⟩
theorem yi_Mo_out : Cond.instanceMethod y_Mo_out ∈ fw_WS := fw_in (fw_tb (i := 805) (by decide +kernel)) rfl
theorem ys_Mo_out : Cond.selects y_Mo_out.cls y_Mo_out y_Mo_out ∈ fw_WS := fw_in (fw_tb (i := 806) (by decide +kernel)) rfl
def y_Mo_loop : MethodName := ⟨"FederationWireModel", "loop", "(II)I"⟩
theorem yi_Mo_loop : Cond.instanceMethod y_Mo_loop ∈ fw_WS := fw_in (fw_tb (i := 813) (by decide +kernel)) rfl
theorem ys_Mo_loop : Cond.selects y_Mo_loop.cls y_Mo_loop y_Mo_loop ∈ fw_WS := fw_in (fw_tb (i := 814) (by decide +kernel)) rfl
def y_Mo_up : MethodName := ⟨"FederationWireModel", "up", "(I)I"⟩
theorem yi_Mo_up : Cond.instanceMethod y_Mo_up ∈ fw_WS := fw_in (fw_tb (i := 817) (by decide +kernel)) rfl
theorem ys_Mo_up : Cond.selects y_Mo_up.cls y_Mo_up y_Mo_up ∈ fw_WS := fw_in (fw_tb (i := 818) (by decide +kernel)) rfl
def y_Mo_down : MethodName := ⟨"FederationWireModel", "down", "(I)I"⟩
theorem yi_Mo_down : Cond.instanceMethod y_Mo_down ∈ fw_WS := fw_in (fw_tb (i := 821) (by decide +kernel)) rfl
theorem ys_Mo_down : Cond.selects y_Mo_down.cls y_Mo_down y_Mo_down ∈ fw_WS := fw_in (fw_tb (i := 822) (by decide +kernel)) rfl
def y_Mo_tick : MethodName := ⟨"FederationWireModel", "tick", "(I)I"⟩
theorem yi_Mo_tick : Cond.instanceMethod y_Mo_tick ∈ fw_WS := fw_in (fw_tb (i := 825) (by decide +kernel)) rfl
theorem ys_Mo_tick : Cond.selects y_Mo_tick.cls y_Mo_tick y_Mo_tick ∈ fw_WS := fw_in (fw_tb (i := 826) (by decide +kernel)) rfl
def y_Mo_joinedOnes : MethodName := ⟨"FederationWireModel", "joinedOnes", "(III)I"⟩
theorem yi_Mo_joinedOnes : Cond.instanceMethod y_Mo_joinedOnes ∈ fw_WS := fw_in (fw_tb (i := 834) (by decide +kernel)) rfl
theorem ys_Mo_joinedOnes : Cond.selects y_Mo_joinedOnes.cls y_Mo_joinedOnes y_Mo_joinedOnes ∈ fw_WS := fw_in (fw_ts 43 (by decide +kernel)) rfl
def y_Mo_told : MethodName := ⟨"FederationWireModel", "told", "(II)I"⟩
theorem yi_Mo_told : Cond.instanceMethod y_Mo_told ∈ fw_WS := fw_in (fw_tb (i := 829) (by decide +kernel)) rfl
theorem ys_Mo_told : Cond.selects y_Mo_told.cls y_Mo_told y_Mo_told ∈ fw_WS := fw_in (fw_tb (i := 830) (by decide +kernel)) rfl
def y_Mo_row : MethodName := ⟨"FederationWireModel", "row", "(III)I"⟩
theorem yi_Mo_row : Cond.instanceMethod y_Mo_row ∈ fw_WS := fw_in (fw_tb (i := 841) (by decide +kernel)) rfl
theorem ys_Mo_row : Cond.selects y_Mo_row.cls y_Mo_row y_Mo_row ∈ fw_WS := fw_in (fw_tb (i := 842) (by decide +kernel)) rfl
def y_Mo_joined : MethodName := ⟨"FederationWireModel", "joined", "(III)I"⟩
theorem yi_Mo_joined : Cond.instanceMethod y_Mo_joined ∈ fw_WS := fw_in (fw_tb (i := 845) (by decide +kernel)) rfl
theorem ys_Mo_joined : Cond.selects y_Mo_joined.cls y_Mo_joined y_Mo_joined ∈ fw_WS := fw_in (fw_tb (i := 846) (by decide +kernel)) rfl
def y_Mo_estimate : MethodName := ⟨"FederationWireModel", "estimate", "(I)I"⟩
theorem yi_Mo_estimate : Cond.instanceMethod y_Mo_estimate ∈ fw_WS := fw_in (fw_tb (i := 849) (by decide +kernel)) rfl
theorem ys_Mo_estimate : Cond.selects y_Mo_estimate.cls y_Mo_estimate y_Mo_estimate ∈ fw_WS := fw_in (fw_tb (i := 850) (by decide +kernel)) rfl
def y_Mo_count : MethodName := ⟨"FederationWireModel", "count", "(I)I"⟩
theorem yi_Mo_count : Cond.instanceMethod y_Mo_count ∈ fw_WS := fw_in (fw_tb (i := 853) (by decide +kernel)) rfl
theorem ys_Mo_count : Cond.selects y_Mo_count.cls y_Mo_count y_Mo_count ∈ fw_WS := fw_in (fw_tb (i := 854) (by decide +kernel)) rfl
def y_Mo_line : MethodName := ⟨"FederationWireModel", "line", "(II)I"⟩
theorem yi_Mo_line : Cond.instanceMethod y_Mo_line ∈ fw_WS := fw_in (fw_tb (i := 857) (by decide +kernel)) rfl
theorem ys_Mo_line : Cond.selects y_Mo_line.cls y_Mo_line y_Mo_line ∈ fw_WS := fw_in (fw_tb (i := 858) (by decide +kernel)) rfl
theorem ft_obj_0_3 : Cond.methodLink "FederationWire$Frame" 3 objectInit ∈ fw_WS := fw_in (fw_tb (i := 60) (by decide +kernel)) rfl
theorem ft_field_0_9 : fw_F "FederationWire$Frame" 9 0 0 .int false := ⟨_, _, _, cl_0, by decide, by decide +kernel, by decide, Or.inl (fw_in (fw_tb (i := 61) (by decide +kernel)) rfl)⟩
theorem ft_field_0_15 : fw_F "FederationWire$Frame" 15 0 1 .int false := ⟨_, _, _, cl_0, by decide, by decide +kernel, by decide, Or.inl (fw_in (fw_tb (i := 65) (by decide +kernel)) rfl)⟩
theorem ft_field_0_18 : fw_F "FederationWire$Frame" 18 0 2 .int false := ⟨_, _, _, cl_0, by decide, by decide +kernel, by decide, Or.inl (fw_in (fw_tb (i := 69) (by decide +kernel)) rfl)⟩
theorem ft_field_0_21 : fw_F "FederationWire$Frame" 21 0 3 (.array .int) true := ⟨_, _, _, cl_0, by decide, by decide +kernel, by decide, Or.inl (fw_in (fw_tb (i := 73) (by decide +kernel)) rfl)⟩
theorem ft_nonest_0_21 : ∀ host Cn nm d, Cond.fieldLinkNest "FederationWire$Frame" 21 Cn nm d host ∉ fw_NS := fw_noN "FederationWire$Frame" 21 (by decide +kernel)
theorem ft_obj_2_3 : Cond.methodLink "FederationWire$Pairs" 3 objectInit ∈ fw_WS := fw_in (fw_tb (i := 27) (by decide +kernel)) rfl
theorem ft_field_2_9 : fw_F "FederationWire$Pairs" 9 2 2 .int false := ⟨_, _, _, cl_2, by decide, by decide +kernel, by decide, Or.inl (fw_in (fw_tb (i := 33) (by decide +kernel)) rfl)⟩
theorem ft_max_2_15 : Cond.methodLink "FederationWire$Pairs" 15 Lib.Math.max.name ∈ fw_WS := fw_in (fw_tb (i := 28) (by decide +kernel)) rfl
theorem ft_field_2_21 : fw_F "FederationWire$Pairs" 21 2 0 (.array .int) true := ⟨_, _, _, cl_2, by decide, by decide +kernel, by decide, Or.inl (fw_in (fw_tb (i := 31) (by decide +kernel)) rfl)⟩
theorem ft_nonest_2_21 : ∀ host Cn nm d, Cond.fieldLinkNest "FederationWire$Pairs" 21 Cn nm d host ∉ fw_NS := fw_noN "FederationWire$Pairs" 21 (by decide +kernel)
theorem ft_field_2_25 : fw_F "FederationWire$Pairs" 25 2 1 (.array .int) true := ⟨_, _, _, cl_2, by decide, by decide +kernel, by decide, Or.inl (fw_in (fw_tb (i := 32) (by decide +kernel)) rfl)⟩
theorem ft_nonest_2_25 : ∀ host Cn nm d, Cond.fieldLinkNest "FederationWire$Pairs" 25 Cn nm d host ∉ fw_NS := fw_noN "FederationWire$Pairs" 25 (by decide +kernel)
theorem ft_obj_1_3 : Cond.methodLink "FederationWire$Memory" 3 objectInit ∈ fw_WS := fw_in (fw_tb (i := 87) (by decide +kernel)) rfl
theorem ft_field_1_9 : fw_F "FederationWire$Memory" 9 1 0 .int false := ⟨_, _, _, cl_1, by decide, by decide +kernel, by decide, Or.inl (fw_in (fw_tb (i := 90) (by decide +kernel)) rfl)⟩
theorem ft_field_1_15 : fw_F "FederationWire$Memory" 15 1 1 .int false := ⟨_, _, _, cl_1, by decide, by decide +kernel, by decide, Or.inl (fw_in (fw_tb (i := 92) (by decide +kernel)) rfl)⟩
theorem ft_field_1_18 : fw_F "FederationWire$Memory" 18 1 2 .int false := ⟨_, _, _, cl_1, by decide, by decide +kernel, by decide, Or.inl (fw_in (fw_tb (i := 94) (by decide +kernel)) rfl)⟩
theorem ft_new_1_21 : Cond.classLink "FederationWire$Memory" 21 "FederationWire$Pairs" ∈ fw_WS := fw_in (fw_tb (i := 88) (by decide +kernel)) rfl
theorem ft_callI_1_23 : fw_L "FederationWire$Memory" 23 y_Pairs_init prog_4_method_1_code 3 none 1 := ⟨fw_in (fw_tb (i := 26) (by decide +kernel)) rfl, fw_in (fw_tb (i := 2) (by decide +kernel)) rfl, by decide, by decide +kernel, Or.inl (fw_in (fw_tb (i := 89) (by decide +kernel)) rfl)⟩
theorem ft_field_1_26 : fw_F "FederationWire$Memory" 26 1 3 (.object "FederationWire$Pairs") true := ⟨_, _, _, cl_1, by decide, by decide +kernel, by decide, Or.inl (fw_in (fw_tb (i := 96) (by decide +kernel)) rfl)⟩
theorem ft_nonest_1_26 : ∀ host Cn nm d, Cond.fieldLinkNest "FederationWire$Memory" 26 Cn nm d host ∉ fw_NS := fw_noN "FederationWire$Memory" 26 (by decide +kernel)
theorem ft_field_3_9 : fw_F "FederationWire$Request" 9 3 5 .int false := ⟨_, _, _, cl_3, by decide, by decide +kernel, by decide, Or.inl (fw_in (fw_tb (i := 301) (by decide +kernel)) rfl)⟩
theorem ft_field_3_77 : fw_F "FederationWire$Request" 77 3 4 (.array .int) true := ⟨_, _, _, cl_3, by decide, by decide +kernel, by decide, Or.inl (fw_in (fw_tb (i := 300) (by decide +kernel)) rfl)⟩
theorem ft_obj_3_3 : Cond.methodLink "FederationWire$Request" 3 objectInit ∈ fw_WS := fw_in (fw_tb (i := 276) (by decide +kernel)) rfl
theorem ft_field_3_15 : fw_F "FederationWire$Request" 15 3 6 .int false := ⟨_, _, _, cl_3, by decide, by decide +kernel, by decide, Or.inl (fw_in (fw_tb (i := 303) (by decide +kernel)) rfl)⟩
theorem ft_new_3_18 : Cond.classLink "FederationWire$Request" 18 "FederationWire$Pairs" ∈ fw_WS := fw_in (fw_tb (i := 277) (by decide +kernel)) rfl
theorem ft_callI_3_20 : fw_L "FederationWire$Request" 20 y_Pairs_init prog_4_method_1_code 3 none 1 := ⟨fw_in (fw_tb (i := 26) (by decide +kernel)) rfl, fw_in (fw_tb (i := 2) (by decide +kernel)) rfl, by decide, by decide +kernel, Or.inl (fw_in (fw_tb (i := 278) (by decide +kernel)) rfl)⟩
theorem ft_field_3_23 : fw_F "FederationWire$Request" 23 3 7 (.object "FederationWire$Pairs") true := ⟨_, _, _, cl_3, by decide, by decide +kernel, by decide, Or.inl (fw_in (fw_tb (i := 304) (by decide +kernel)) rfl)⟩
theorem ft_nonest_3_23 : ∀ host Cn nm d, Cond.fieldLinkNest "FederationWire$Request" 23 Cn nm d host ∉ fw_NS := fw_noN "FederationWire$Request" 23 (by decide +kernel)
theorem ft_field_3_27 : fw_F "FederationWire$Request" 27 3 8 .int false := ⟨_, _, _, cl_3, by decide, by decide +kernel, by decide, Or.inl (fw_in (fw_tb (i := 306) (by decide +kernel)) rfl)⟩
theorem ft_new_3_30 : Cond.classLink "FederationWire$Request" 30 "FederationWire$Frame" ∈ fw_WS := fw_in (fw_tb (i := 279) (by decide +kernel)) rfl
theorem ft_callI_3_32 : fw_L "FederationWire$Request" 32 y_Frame_init prog_2_method_1_code 1 none 0 := ⟨fw_in (fw_tb (i := 59) (by decide +kernel)) rfl, fw_in (fw_tb (i := 5) (by decide +kernel)) rfl, by decide, by decide +kernel, Or.inr ⟨"FederationWire", fw_inN (fw_tb (i := 280) (by decide +kernel)) rfl⟩⟩
theorem ft_field_3_33 : fw_F "FederationWire$Request" 33 3 9 (.object "FederationWire$Frame") true := ⟨_, _, _, cl_3, by decide, by decide +kernel, by decide, Or.inl (fw_in (fw_tb (i := 307) (by decide +kernel)) rfl)⟩
theorem ft_nonest_3_33 : ∀ host Cn nm d, Cond.fieldLinkNest "FederationWire$Request" 33 Cn nm d host ∉ fw_NS := fw_noN "FederationWire$Request" 33 (by decide +kernel)
theorem ft_field_3_37 : fw_F "FederationWire$Request" 37 3 11 .int false := ⟨_, _, _, cl_3, by decide, by decide +kernel, by decide, Or.inl (fw_in (fw_tb (i := 310) (by decide +kernel)) rfl)⟩
theorem ft_field_3_40 : fw_F "FederationWire$Request" 40 3 12 .int false := ⟨_, _, _, cl_3, by decide, by decide +kernel, by decide, Or.inl (fw_in (fw_tb (i := 312) (by decide +kernel)) rfl)⟩
theorem ft_field_3_43 : fw_F "FederationWire$Request" 43 3 13 .int false := ⟨_, _, _, cl_3, by decide, by decide +kernel, by decide, Or.inl (fw_in (fw_tb (i := 314) (by decide +kernel)) rfl)⟩
theorem ft_field_3_46 : fw_F "FederationWire$Request" 46 3 14 .int false := ⟨_, _, _, cl_3, by decide, by decide +kernel, by decide, Or.inl (fw_in (fw_tb (i := 316) (by decide +kernel)) rfl)⟩
theorem ft_field_3_49 : fw_F "FederationWire$Request" 49 3 15 .int false := ⟨_, _, _, cl_3, by decide, by decide +kernel, by decide, Or.inl (fw_in (fw_tb (i := 318) (by decide +kernel)) rfl)⟩
theorem ft_field_3_52 : fw_F "FederationWire$Request" 52 3 10 .int true := ⟨_, _, _, cl_3, by decide, by decide +kernel, by decide, Or.inl (fw_in (fw_tb (i := 309) (by decide +kernel)) rfl)⟩
theorem ft_nonest_3_52 : ∀ host Cn nm d, Cond.fieldLinkNest "FederationWire$Request" 52 Cn nm d host ∉ fw_NS := fw_noN "FederationWire$Request" 52 (by decide +kernel)
theorem ft_field_3_55 : fw_F "FederationWire$Request" 55 3 0 .int true := ⟨_, _, _, cl_3, by decide, by decide +kernel, by decide, Or.inl (fw_in (fw_tb (i := 295) (by decide +kernel)) rfl)⟩
theorem ft_nonest_3_55 : ∀ host Cn nm d, Cond.fieldLinkNest "FederationWire$Request" 55 Cn nm d host ∉ fw_NS := fw_noN "FederationWire$Request" 55 (by decide +kernel)
theorem ft_field_3_58 : fw_F "FederationWire$Request" 58 3 1 .boolean true := ⟨_, _, _, cl_3, by decide, by decide +kernel, by decide, Or.inl (fw_in (fw_tb (i := 297) (by decide +kernel)) rfl)⟩
theorem ft_nonest_3_58 : ∀ host Cn nm d, Cond.fieldLinkNest "FederationWire$Request" 58 Cn nm d host ∉ fw_NS := fw_noN "FederationWire$Request" 58 (by decide +kernel)
theorem ft_field_3_62 : fw_F "FederationWire$Request" 62 3 2 .int true := ⟨_, _, _, cl_3, by decide, by decide +kernel, by decide, Or.inl (fw_in (fw_tb (i := 298) (by decide +kernel)) rfl)⟩
theorem ft_nonest_3_62 : ∀ host Cn nm d, Cond.fieldLinkNest "FederationWire$Request" 62 Cn nm d host ∉ fw_NS := fw_noN "FederationWire$Request" 62 (by decide +kernel)
theorem ft_field_3_65 : fw_F "FederationWire$Request" 65 2 2 .int false := ⟨_, _, _, cl_2, by decide, by decide +kernel, by decide, Or.inr ⟨"FederationWire", fw_inN (fw_tb (i := 34) (by decide +kernel)) rfl⟩⟩
theorem ft_field_3_68 : fw_F "FederationWire$Request" 68 3 3 (.object "FederationWire$Pairs") true := ⟨_, _, _, cl_3, by decide, by decide +kernel, by decide, Or.inl (fw_in (fw_tb (i := 299) (by decide +kernel)) rfl)⟩
theorem ft_nonest_3_68 : ∀ host Cn nm d, Cond.fieldLinkNest "FederationWire$Request" 68 Cn nm d host ∉ fw_NS := fw_noN "FederationWire$Request" 68 (by decide +kernel)
theorem ft_max_3_71 : Cond.methodLink "FederationWire$Request" 71 Lib.Math.max.name ∈ fw_WS := fw_in (fw_tb (i := 281) (by decide +kernel)) rfl
theorem ft_nonest_3_77 : ∀ host Cn nm d, Cond.fieldLinkNest "FederationWire$Request" 77 Cn nm d host ∉ fw_NS := fw_noN "FederationWire$Request" 77 (by decide +kernel)
theorem ft_callV_3_81 : fw_L "FederationWire$Request" 81 y_Pairs_keyAt prog_4_method_3_code 2 (some .int) 1 := ⟨fw_in (fw_tb (i := 285) (by decide +kernel)) rfl, fw_in (fw_tb (i := 2) (by decide +kernel)) rfl, by decide, by decide +kernel, Or.inl (fw_in (fw_tb (i := 282) (by decide +kernel)) rfl)⟩
theorem ft_callV_3_85 : fw_L "FederationWire$Request" 85 y_Pairs_valueAt prog_4_method_4_code 2 (some .int) 1 := ⟨fw_in (fw_tb (i := 289) (by decide +kernel)) rfl, fw_in (fw_tb (i := 2) (by decide +kernel)) rfl, by decide, by decide +kernel, Or.inl (fw_in (fw_tb (i := 286) (by decide +kernel)) rfl)⟩
theorem ft_callV_3_88 : fw_L "FederationWire$Request" 88 y_Pairs_add prog_4_method_2_code 3 (some .boolean) 2 := ⟨fw_in (fw_tb (i := 267) (by decide +kernel)) rfl, fw_in (fw_tb (i := 2) (by decide +kernel)) rfl, by decide, by decide +kernel, Or.inl (fw_in (fw_tb (i := 290) (by decide +kernel)) rfl)⟩
theorem ft_callV_3_92 : fw_L "FederationWire$Request" 92 y_Request_addKey prog_5_method_2_code 3 none 1 := ⟨fw_in (fw_tb (i := 294) (by decide +kernel)) rfl, fw_in (fw_tb (i := 9) (by decide +kernel)) rfl, by decide, by decide +kernel, Or.inl (fw_in (fw_tb (i := 291) (by decide +kernel)) rfl)⟩
theorem ft_callV_3_104 : fw_L "FederationWire$Request" 104 y_Frame_begin prog_2_method_2_code 3 none 2 := ⟨fw_in (fw_tb (i := 372) (by decide +kernel)) rfl, fw_in (fw_tb (i := 5) (by decide +kernel)) rfl, by decide, by decide +kernel, Or.inl (fw_in (fw_tb (i := 369) (by decide +kernel)) rfl)⟩
theorem ft_callV_3_101 : fw_L "FederationWire$Request" 101 y_Frame_put prog_2_method_3_code 2 none 1 := ⟨fw_in (fw_tb (i := 376) (by decide +kernel)) rfl, fw_in (fw_tb (i := 5) (by decide +kernel)) rfl, by decide, by decide +kernel, Or.inl (fw_in (fw_tb (i := 373) (by decide +kernel)) rfl)⟩
theorem ft_callV_3_95 : fw_L "FederationWire$Request" 95 y_Request_nextStep prog_5_method_6_code 2 none 1 := ⟨fw_in (fw_tb (i := 368) (by decide +kernel)) rfl, fw_in (fw_tb (i := 9) (by decide +kernel)) rfl, by decide, by decide +kernel, Or.inl (fw_in (fw_tb (i := 365) (by decide +kernel)) rfl)⟩
theorem ft_min_3_98 : Cond.methodLink "FederationWire$Request" 98 Lib.Math.min.name ∈ fw_WS := fw_in (fw_tb (i := 377) (by decide +kernel)) rfl
theorem ft_callV_3_108 : fw_L "FederationWire$Request" 108 y_Frame_byteAt prog_2_method_4_code 2 (some .int) 1 := ⟨fw_in (fw_tb (i := 236) (by decide +kernel)) rfl, fw_in (fw_tb (i := 5) (by decide +kernel)) rfl, by decide, by decide +kernel, Or.inl (fw_in (fw_tb (i := 454) (by decide +kernel)) rfl)⟩
theorem ft_field_3_111 : fw_F "FederationWire$Request" 111 0 0 .int false := ⟨_, _, _, cl_0, by decide, by decide +kernel, by decide, Or.inr ⟨"FederationWire", fw_inN (fw_tb (i := 63) (by decide +kernel)) rfl⟩⟩
theorem ft_field_3_114 : fw_F "FederationWire$Request" 114 0 2 .int false := ⟨_, _, _, cl_0, by decide, by decide +kernel, by decide, Or.inr ⟨"FederationWire", fw_inN (fw_tb (i := 72) (by decide +kernel)) rfl⟩⟩
theorem ft_callV_3_117 : fw_L "FederationWire$Request" 117 y_Pairs_clear prog_4_method_5_code 1 none 0 := ⟨fw_in (fw_tb (i := 356) (by decide +kernel)) rfl, fw_in (fw_tb (i := 2) (by decide +kernel)) rfl, by decide, by decide +kernel, Or.inl (fw_in (fw_tb (i := 459) (by decide +kernel)) rfl)⟩
theorem ft_callV_3_120 : fw_L "FederationWire$Request" 120 y_Request_silentPart prog_5_method_12_code 3 (some .int) 2 := ⟨fw_in (fw_tb (i := 529) (by decide +kernel)) rfl, fw_in (fw_tb (i := 9) (by decide +kernel)) rfl, by decide, by decide +kernel, Or.inl (fw_in (fw_tb (i := 526) (by decide +kernel)) rfl)⟩
theorem ft_obj_4_3 : Cond.methodLink "FederationWire$ServingEnd" 3 objectInit ∈ fw_WS := fw_in (fw_tb (i := 50) (by decide +kernel)) rfl
theorem ft_new_4_9 : Cond.classLink "FederationWire$ServingEnd" 9 "FederationWire$Pairs" ∈ fw_WS := fw_in (fw_tb (i := 51) (by decide +kernel)) rfl
theorem ft_callI_4_11 : fw_L "FederationWire$ServingEnd" 11 y_Pairs_init prog_4_method_1_code 3 none 1 := ⟨fw_in (fw_tb (i := 26) (by decide +kernel)) rfl, fw_in (fw_tb (i := 2) (by decide +kernel)) rfl, by decide, by decide +kernel, Or.inl (fw_in (fw_tb (i := 52) (by decide +kernel)) rfl)⟩
theorem ft_field_4_14 : fw_F "FederationWire$ServingEnd" 14 4 0 (.object "FederationWire$Pairs") true := ⟨_, _, _, cl_4, by decide, by decide +kernel, by decide, Or.inl (fw_in (fw_tb (i := 107) (by decide +kernel)) rfl)⟩
theorem ft_nonest_4_14 : ∀ host Cn nm d, Cond.fieldLinkNest "FederationWire$ServingEnd" 14 Cn nm d host ∉ fw_NS := fw_noN "FederationWire$ServingEnd" 14 (by decide +kernel)
theorem ft_anew_4_20 : Cond.classLink "FederationWire$ServingEnd" 20 "FederationWire$Memory" ∈ fw_WS := fw_in (fw_tb (i := 53) (by decide +kernel)) rfl
theorem ft_field_4_22 : fw_F "FederationWire$ServingEnd" 22 4 1 (.array (.object "FederationWire$Memory")) true := ⟨_, _, _, cl_4, by decide, by decide +kernel, by decide, Or.inl (fw_in (fw_tb (i := 109) (by decide +kernel)) rfl)⟩
theorem ft_nonest_4_22 : ∀ host Cn nm d, Cond.fieldLinkNest "FederationWire$ServingEnd" 22 Cn nm d host ∉ fw_NS := fw_noN "FederationWire$ServingEnd" 22 (by decide +kernel)
theorem ft_field_4_26 : fw_F "FederationWire$ServingEnd" 26 4 2 .int false := ⟨_, _, _, cl_4, by decide, by decide +kernel, by decide, Or.inl (fw_in (fw_tb (i := 110) (by decide +kernel)) rfl)⟩
theorem ft_field_4_30 : fw_F "FederationWire$ServingEnd" 30 4 3 .int false := ⟨_, _, _, cl_4, by decide, by decide +kernel, by decide, Or.inl (fw_in (fw_tb (i := 112) (by decide +kernel)) rfl)⟩
theorem ft_new_4_33 : Cond.classLink "FederationWire$ServingEnd" 33 "FederationWire$Frame" ∈ fw_WS := fw_in (fw_tb (i := 55) (by decide +kernel)) rfl
theorem ft_callI_4_35 : fw_L "FederationWire$ServingEnd" 35 y_Frame_init prog_2_method_1_code 1 none 0 := ⟨fw_in (fw_tb (i := 59) (by decide +kernel)) rfl, fw_in (fw_tb (i := 5) (by decide +kernel)) rfl, by decide, by decide +kernel, Or.inr ⟨"FederationWire", fw_inN (fw_tb (i := 57) (by decide +kernel)) rfl⟩⟩
theorem ft_field_4_36 : fw_F "FederationWire$ServingEnd" 36 4 4 (.object "FederationWire$Frame") true := ⟨_, _, _, cl_4, by decide, by decide +kernel, by decide, Or.inl (fw_in (fw_tb (i := 114) (by decide +kernel)) rfl)⟩
theorem ft_nonest_4_36 : ∀ host Cn nm d, Cond.fieldLinkNest "FederationWire$ServingEnd" 36 Cn nm d host ∉ fw_NS := fw_noN "FederationWire$ServingEnd" 36 (by decide +kernel)
theorem ft_new_4_20 : Cond.classLink "FederationWire$ServingEnd" 20 "FederationWire$Memory" ∈ fw_WS := fw_in (fw_tb (i := 53) (by decide +kernel)) rfl
theorem ft_callI_4_40 : fw_L "FederationWire$ServingEnd" 40 y_Memory_init prog_3_method_1_code 1 none 0 := ⟨fw_in (fw_tb (i := 86) (by decide +kernel)) rfl, fw_in (fw_tb (i := 6) (by decide +kernel)) rfl, by decide, by decide +kernel, Or.inr ⟨"FederationWire", fw_inN (fw_tb (i := 84) (by decide +kernel)) rfl⟩⟩
theorem ft_callV_4_48 : fw_L "FederationWire$ServingEnd" 48 y_ServingEnd_memoryAt prog_6_method_4_code 2 (some (.object "FederationWire$Memory")) 1 := ⟨fw_in (fw_tb (i := 421) (by decide +kernel)) rfl, fw_in (fw_tb (i := 4) (by decide +kernel)) rfl, by decide, by decide +kernel, Or.inl (fw_in (fw_tb (i := 418) (by decide +kernel)) rfl)⟩
theorem ft_field_4_85 : fw_F "FederationWire$ServingEnd" 85 1 0 .int false := ⟨_, _, _, cl_1, by decide, by decide +kernel, by decide, Or.inr ⟨"FederationWire", fw_inN (fw_tb (i := 91) (by decide +kernel)) rfl⟩⟩
theorem ft_callV_4_44 : fw_L "FederationWire$ServingEnd" 44 y_ServingEnd_placeOf prog_6_method_5_code 4 (some .int) 1 := ⟨fw_in (fw_tb (i := 417) (by decide +kernel)) rfl, fw_in (fw_tb (i := 4) (by decide +kernel)) rfl, by decide, by decide +kernel, Or.inl (fw_in (fw_tb (i := 414) (by decide +kernel)) rfl)⟩
theorem ft_field_4_41 : fw_F "FederationWire$ServingEnd" 41 0 1 .int false := ⟨_, _, _, cl_0, by decide, by decide +kernel, by decide, Or.inr ⟨"FederationWire", fw_inN (fw_tb (i := 66) (by decide +kernel)) rfl⟩⟩
theorem ft_callV_4_55 : fw_L "FederationWire$ServingEnd" 55 y_Frame_byteAt prog_2_method_4_code 2 (some .int) 1 := ⟨fw_in (fw_tb (i := 236) (by decide +kernel)) rfl, fw_in (fw_tb (i := 5) (by decide +kernel)) rfl, by decide, by decide +kernel, Or.inl (fw_in (fw_tb (i := 422) (by decide +kernel)) rfl)⟩
theorem ft_field_4_52 : fw_F "FederationWire$ServingEnd" 52 1 1 .int false := ⟨_, _, _, cl_1, by decide, by decide +kernel, by decide, Or.inr ⟨"FederationWire", fw_inN (fw_tb (i := 93) (by decide +kernel)) rfl⟩⟩
theorem ft_field_4_75 : fw_F "FederationWire$ServingEnd" 75 1 2 .int false := ⟨_, _, _, cl_1, by decide, by decide +kernel, by decide, Or.inr ⟨"FederationWire", fw_inN (fw_tb (i := 95) (by decide +kernel)) rfl⟩⟩
theorem ft_field_4_69 : fw_F "FederationWire$ServingEnd" 69 1 3 (.object "FederationWire$Pairs") true := ⟨_, _, _, cl_1, by decide, by decide +kernel, by decide, Or.inr ⟨"FederationWire", fw_inN (fw_tb (i := 97) (by decide +kernel)) rfl⟩⟩
theorem ft_callV_4_86 : fw_L "FederationWire$ServingEnd" 86 y_Pairs_clear prog_4_method_5_code 1 none 0 := ⟨fw_in (fw_tb (i := 356) (by decide +kernel)) rfl, fw_in (fw_tb (i := 2) (by decide +kernel)) rfl, by decide, by decide +kernel, Or.inl (fw_in (fw_tb (i := 431) (by decide +kernel)) rfl)⟩
theorem ft_field_4_89 : fw_F "FederationWire$ServingEnd" 89 0 2 .int false := ⟨_, _, _, cl_0, by decide, by decide +kernel, by decide, Or.inr ⟨"FederationWire", fw_inN (fw_tb (i := 71) (by decide +kernel)) rfl⟩⟩
theorem ft_field_4_72 : fw_F "FederationWire$ServingEnd" 72 2 2 .int false := ⟨_, _, _, cl_2, by decide, by decide +kernel, by decide, Or.inr ⟨"FederationWire", fw_inN (fw_tb (i := 35) (by decide +kernel)) rfl⟩⟩
theorem ft_callV_4_92 : fw_L "FederationWire$ServingEnd" 92 y_Pairs_keyAt prog_4_method_3_code 2 (some .int) 1 := ⟨fw_in (fw_tb (i := 285) (by decide +kernel)) rfl, fw_in (fw_tb (i := 2) (by decide +kernel)) rfl, by decide, by decide +kernel, Or.inl (fw_in (fw_tb (i := 432) (by decide +kernel)) rfl)⟩
theorem ft_callV_4_95 : fw_L "FederationWire$ServingEnd" 95 y_Pairs_valueAt prog_4_method_4_code 2 (some .int) 1 := ⟨fw_in (fw_tb (i := 289) (by decide +kernel)) rfl, fw_in (fw_tb (i := 2) (by decide +kernel)) rfl, by decide, by decide +kernel, Or.inl (fw_in (fw_tb (i := 433) (by decide +kernel)) rfl)⟩
theorem ft_callV_4_98 : fw_L "FederationWire$ServingEnd" 98 y_Pairs_add prog_4_method_2_code 3 (some .boolean) 2 := ⟨fw_in (fw_tb (i := 267) (by decide +kernel)) rfl, fw_in (fw_tb (i := 2) (by decide +kernel)) rfl, by decide, by decide +kernel, Or.inl (fw_in (fw_tb (i := 434) (by decide +kernel)) rfl)⟩
theorem ft_min_4_102 : Cond.methodLink "FederationWire$ServingEnd" 102 Lib.Math.min.name ∈ fw_WS := fw_in (fw_tb (i := 439) (by decide +kernel)) rfl
theorem ft_callV_4_78 : fw_L "FederationWire$ServingEnd" 78 y_Frame_begin prog_2_method_2_code 3 none 2 := ⟨fw_in (fw_tb (i := 372) (by decide +kernel)) rfl, fw_in (fw_tb (i := 5) (by decide +kernel)) rfl, by decide, by decide +kernel, Or.inl (fw_in (fw_tb (i := 440) (by decide +kernel)) rfl)⟩
theorem ft_callV_4_82 : fw_L "FederationWire$ServingEnd" 82 y_Frame_put prog_2_method_3_code 2 none 1 := ⟨fw_in (fw_tb (i := 376) (by decide +kernel)) rfl, fw_in (fw_tb (i := 5) (by decide +kernel)) rfl, by decide, by decide +kernel, Or.inl (fw_in (fw_tb (i := 441) (by decide +kernel)) rfl)⟩
theorem ft_callV_4_58 : fw_L "FederationWire$ServingEnd" 58 y_ServingEnd_memoryFor prog_6_method_6_code 5 (some (.object "FederationWire$Memory")) 1 := ⟨fw_in (fw_tb (i := 426) (by decide +kernel)) rfl, fw_in (fw_tb (i := 4) (by decide +kernel)) rfl, by decide, by decide +kernel, Or.inl (fw_in (fw_tb (i := 423) (by decide +kernel)) rfl)⟩
theorem ft_callV_4_61 : fw_L "FederationWire$ServingEnd" 61 y_ServingEnd_remember prog_6_method_7_code 5 none 2 := ⟨fw_in (fw_tb (i := 430) (by decide +kernel)) rfl, fw_in (fw_tb (i := 4) (by decide +kernel)) rfl, by decide, by decide +kernel, Or.inl (fw_in (fw_tb (i := 427) (by decide +kernel)) rfl)⟩
theorem ft_callV_4_65 : fw_L "FederationWire$ServingEnd" 65 y_ServingEnd_writeRows prog_6_method_8_code 6 none 3 := ⟨fw_in (fw_tb (i := 438) (by decide +kernel)) rfl, fw_in (fw_tb (i := 4) (by decide +kernel)) rfl, by decide, by decide +kernel, Or.inl (fw_in (fw_tb (i := 435) (by decide +kernel)) rfl)⟩
theorem ft_obj_5_3 : Cond.methodLink "FederationWire$Wire" 3 objectInit ∈ fw_WS := fw_in (fw_tb (i := 131) (by decide +kernel)) rfl
theorem ft_field_5_9 : fw_F "FederationWire$Wire" 9 5 1 (.array .int) true := ⟨_, _, _, cl_5, by decide, by decide +kernel, by decide, Or.inl (fw_in (fw_tb (i := 136) (by decide +kernel)) rfl)⟩
theorem ft_nonest_5_9 : ∀ host Cn nm d, Cond.fieldLinkNest "FederationWire$Wire" 9 Cn nm d host ∉ fw_NS := fw_noN "FederationWire$Wire" 9 (by decide +kernel)
theorem ft_field_5_15 : fw_F "FederationWire$Wire" 15 5 2 .int false := ⟨_, _, _, cl_5, by decide, by decide +kernel, by decide, Or.inl (fw_in (fw_tb (i := 137) (by decide +kernel)) rfl)⟩
theorem ft_field_5_19 : fw_F "FederationWire$Wire" 19 5 3 .int false := ⟨_, _, _, cl_5, by decide, by decide +kernel, by decide, Or.inl (fw_in (fw_tb (i := 138) (by decide +kernel)) rfl)⟩
theorem ft_new_5_22 : Cond.classLink "FederationWire$Wire" 22 "FederationWire$Frame" ∈ fw_WS := fw_in (fw_tb (i := 132) (by decide +kernel)) rfl
theorem ft_callI_5_24 : fw_L "FederationWire$Wire" 24 y_Frame_init prog_2_method_1_code 1 none 0 := ⟨fw_in (fw_tb (i := 59) (by decide +kernel)) rfl, fw_in (fw_tb (i := 5) (by decide +kernel)) rfl, by decide, by decide +kernel, Or.inr ⟨"FederationWire", fw_inN (fw_tb (i := 133) (by decide +kernel)) rfl⟩⟩
theorem ft_field_5_25 : fw_F "FederationWire$Wire" 25 5 4 (.object "FederationWire$Frame") true := ⟨_, _, _, cl_5, by decide, by decide +kernel, by decide, Or.inl (fw_in (fw_tb (i := 140) (by decide +kernel)) rfl)⟩
theorem ft_nonest_5_25 : ∀ host Cn nm d, Cond.fieldLinkNest "FederationWire$Wire" 25 Cn nm d host ∉ fw_NS := fw_noN "FederationWire$Wire" 25 (by decide +kernel)
theorem ft_field_5_29 : fw_F "FederationWire$Wire" 29 5 5 .int false := ⟨_, _, _, cl_5, by decide, by decide +kernel, by decide, Or.inl (fw_in (fw_tb (i := 142) (by decide +kernel)) rfl)⟩
theorem ft_field_5_32 : fw_F "FederationWire$Wire" 32 5 6 .int false := ⟨_, _, _, cl_5, by decide, by decide +kernel, by decide, Or.inl (fw_in (fw_tb (i := 144) (by decide +kernel)) rfl)⟩
theorem ft_field_5_35 : fw_F "FederationWire$Wire" 35 5 0 .boolean false := ⟨_, _, _, cl_5, by decide, by decide +kernel, by decide, Or.inl (fw_in (fw_tb (i := 134) (by decide +kernel)) rfl)⟩
theorem ft_callV_5_39 : fw_L "FederationWire$Wire" 39 y_Wire_clearOut prog_7_method_3_code 1 none 0 := ⟨fw_in (fw_tb (i := 252) (by decide +kernel)) rfl, fw_in (fw_tb (i := 7) (by decide +kernel)) rfl, by decide, by decide +kernel, Or.inl (fw_in (fw_tb (i := 249) (by decide +kernel)) rfl)⟩
theorem ft_field_5_42 : fw_F "FederationWire$Wire" 42 0 2 .int false := ⟨_, _, _, cl_0, by decide, by decide +kernel, by decide, Or.inr ⟨"FederationWire", fw_inN (fw_tb (i := 70) (by decide +kernel)) rfl⟩⟩
theorem ft_callV_5_45 : fw_L "FederationWire$Wire" 45 y_Wire_push prog_7_method_5_code 3 none 1 := ⟨fw_in (fw_tb (i := 232) (by decide +kernel)) rfl, fw_in (fw_tb (i := 7) (by decide +kernel)) rfl, by decide, by decide +kernel, Or.inl (fw_in (fw_tb (i := 229) (by decide +kernel)) rfl)⟩
theorem ft_field_5_49 : fw_F "FederationWire$Wire" 49 0 0 .int false := ⟨_, _, _, cl_0, by decide, by decide +kernel, by decide, Or.inr ⟨"FederationWire", fw_inN (fw_tb (i := 62) (by decide +kernel)) rfl⟩⟩
theorem ft_field_5_52 : fw_F "FederationWire$Wire" 52 0 1 .int false := ⟨_, _, _, cl_0, by decide, by decide +kernel, by decide, Or.inr ⟨"FederationWire", fw_inN (fw_tb (i := 67) (by decide +kernel)) rfl⟩⟩
theorem ft_callV_5_59 : fw_L "FederationWire$Wire" 59 y_Frame_sum prog_2_method_5_code 3 (some .int) 0 := ⟨fw_in (fw_tb (i := 240) (by decide +kernel)) rfl, fw_in (fw_tb (i := 5) (by decide +kernel)) rfl, by decide, by decide +kernel, Or.inl (fw_in (fw_tb (i := 237) (by decide +kernel)) rfl)⟩
theorem ft_callV_5_55 : fw_L "FederationWire$Wire" 55 y_Frame_byteAt prog_2_method_4_code 2 (some .int) 1 := ⟨fw_in (fw_tb (i := 236) (by decide +kernel)) rfl, fw_in (fw_tb (i := 5) (by decide +kernel)) rfl, by decide, by decide +kernel, Or.inl (fw_in (fw_tb (i := 233) (by decide +kernel)) rfl)⟩
theorem ft_callV_5_70 : fw_L "FederationWire$Wire" 70 y_Wire_lengthSuits prog_7_method_9_code 2 (some .boolean) 1 := ⟨fw_in (fw_tb (i := 399) (by decide +kernel)) rfl, fw_in (fw_tb (i := 7) (by decide +kernel)) rfl, by decide, by decide +kernel, Or.inl (fw_in (fw_tb (i := 396) (by decide +kernel)) rfl)⟩
theorem ft_callV_5_73 : fw_L "FederationWire$Wire" 73 y_Frame_begin prog_2_method_2_code 3 none 2 := ⟨fw_in (fw_tb (i := 372) (by decide +kernel)) rfl, fw_in (fw_tb (i := 5) (by decide +kernel)) rfl, by decide, by decide +kernel, Or.inl (fw_in (fw_tb (i := 404) (by decide +kernel)) rfl)⟩
theorem ft_callV_5_77 : fw_L "FederationWire$Wire" 77 y_Frame_put prog_2_method_3_code 2 none 1 := ⟨fw_in (fw_tb (i := 376) (by decide +kernel)) rfl, fw_in (fw_tb (i := 5) (by decide +kernel)) rfl, by decide, by decide +kernel, Or.inl (fw_in (fw_tb (i := 405) (by decide +kernel)) rfl)⟩
theorem ft_callV_5_63 : fw_L "FederationWire$Wire" 63 y_Wire_suits prog_7_method_8_code 2 (some .boolean) 1 := ⟨fw_in (fw_tb (i := 395) (by decide +kernel)) rfl, fw_in (fw_tb (i := 7) (by decide +kernel)) rfl, by decide, by decide +kernel, Or.inl (fw_in (fw_tb (i := 392) (by decide +kernel)) rfl)⟩
theorem ft_callV_5_67 : fw_L "FederationWire$Wire" 67 y_Wire_keep prog_7_method_10_code 2 none 1 := ⟨fw_in (fw_tb (i := 403) (by decide +kernel)) rfl, fw_in (fw_tb (i := 7) (by decide +kernel)) rfl, by decide, by decide +kernel, Or.inl (fw_in (fw_tb (i := 400) (by decide +kernel)) rfl)⟩
theorem ft_obj_6_1 : Cond.methodLink "FederationWire" 1 objectInit ∈ fw_WS := fw_in (fw_tb (i := 15) (by decide +kernel)) rfl
theorem ft_anew_6_9 : Cond.classLink "FederationWire" 9 "FederationWire$Wire" ∈ fw_WS := fw_in (fw_tb (i := 18) (by decide +kernel)) rfl
theorem ft_field_6_11 : fw_F "FederationWire" 11 6 0 (.array (.object "FederationWire$Wire")) true := ⟨_, _, _, cl_6, by decide, by decide +kernel, by decide, Or.inl (fw_in (fw_tb (i := 161) (by decide +kernel)) rfl)⟩
theorem ft_nonest_6_11 : ∀ host Cn nm d, Cond.fieldLinkNest "FederationWire" 11 Cn nm d host ∉ fw_NS := fw_noN "FederationWire" 11 (by decide +kernel)
theorem ft_anew_6_15 : Cond.classLink "FederationWire" 15 "FederationWire$Request" ∈ fw_WS := fw_in (fw_tb (i := 20) (by decide +kernel)) rfl
theorem ft_field_6_17 : fw_F "FederationWire" 17 6 1 (.array (.object "FederationWire$Request")) true := ⟨_, _, _, cl_6, by decide, by decide +kernel, by decide, Or.inl (fw_in (fw_tb (i := 162) (by decide +kernel)) rfl)⟩
theorem ft_nonest_6_17 : ∀ host Cn nm d, Cond.fieldLinkNest "FederationWire" 17 Cn nm d host ∉ fw_NS := fw_noN "FederationWire" 17 (by decide +kernel)
theorem ft_field_6_21 : fw_F "FederationWire" 21 6 2 .int false := ⟨_, _, _, cl_6, by decide, by decide +kernel, by decide, Or.inl (fw_in (fw_tb (i := 163) (by decide +kernel)) rfl)⟩
theorem ft_new_6_25 : Cond.classLink "FederationWire" 25 "FederationWire$Pairs" ∈ fw_WS := fw_in (fw_tb (i := 22) (by decide +kernel)) rfl
theorem ft_callI_6_27 : fw_L "FederationWire" 27 y_Pairs_init prog_4_method_1_code 3 none 1 := ⟨fw_in (fw_tb (i := 26) (by decide +kernel)) rfl, fw_in (fw_tb (i := 2) (by decide +kernel)) rfl, by decide, by decide +kernel, Or.inl (fw_in (fw_tb (i := 24) (by decide +kernel)) rfl)⟩
theorem ft_field_6_30 : fw_F "FederationWire" 30 6 3 (.object "FederationWire$Pairs") true := ⟨_, _, _, cl_6, by decide, by decide +kernel, by decide, Or.inl (fw_in (fw_tb (i := 164) (by decide +kernel)) rfl)⟩
theorem ft_nonest_6_30 : ∀ host Cn nm d, Cond.fieldLinkNest "FederationWire" 30 Cn nm d host ∉ fw_NS := fw_noN "FederationWire" 30 (by decide +kernel)
theorem ft_new_6_34 : Cond.classLink "FederationWire" 34 "FederationWire$ServingEnd" ∈ fw_WS := fw_in (fw_tb (i := 45) (by decide +kernel)) rfl
theorem ft_callI_6_36 : fw_L "FederationWire" 36 y_ServingEnd_init prog_6_method_1_code 2 none 0 := ⟨fw_in (fw_tb (i := 49) (by decide +kernel)) rfl, fw_in (fw_tb (i := 4) (by decide +kernel)) rfl, by decide, by decide +kernel, Or.inl (fw_in (fw_tb (i := 47) (by decide +kernel)) rfl)⟩
theorem ft_field_6_37 : fw_F "FederationWire" 37 6 4 (.object "FederationWire$ServingEnd") true := ⟨_, _, _, cl_6, by decide, by decide +kernel, by decide, Or.inl (fw_in (fw_tb (i := 165) (by decide +kernel)) rfl)⟩
theorem ft_nonest_6_37 : ∀ host Cn nm d, Cond.fieldLinkNest "FederationWire" 37 Cn nm d host ∉ fw_NS := fw_noN "FederationWire" 37 (by decide +kernel)
theorem ft_field_6_41 : fw_F "FederationWire" 41 6 5 (.array .int) true := ⟨_, _, _, cl_6, by decide, by decide +kernel, by decide, Or.inl (fw_in (fw_tb (i := 166) (by decide +kernel)) rfl)⟩
theorem ft_nonest_6_41 : ∀ host Cn nm d, Cond.fieldLinkNest "FederationWire" 41 Cn nm d host ∉ fw_NS := fw_noN "FederationWire" 41 (by decide +kernel)
theorem ft_field_6_45 : fw_F "FederationWire" 45 6 6 (.array .boolean) true := ⟨_, _, _, cl_6, by decide, by decide +kernel, by decide, Or.inl (fw_in (fw_tb (i := 167) (by decide +kernel)) rfl)⟩
theorem ft_nonest_6_45 : ∀ host Cn nm d, Cond.fieldLinkNest "FederationWire" 45 Cn nm d host ∉ fw_NS := fw_noN "FederationWire" 45 (by decide +kernel)
theorem ft_field_6_49 : fw_F "FederationWire" 49 6 7 .int false := ⟨_, _, _, cl_6, by decide, by decide +kernel, by decide, Or.inl (fw_in (fw_tb (i := 168) (by decide +kernel)) rfl)⟩
theorem ft_field_6_52 : fw_F "FederationWire" 52 6 8 .int false := ⟨_, _, _, cl_6, by decide, by decide +kernel, by decide, Or.inl (fw_in (fw_tb (i := 169) (by decide +kernel)) rfl)⟩
theorem ft_field_6_55 : fw_F "FederationWire" 55 6 9 .int false := ⟨_, _, _, cl_6, by decide, by decide +kernel, by decide, Or.inl (fw_in (fw_tb (i := 170) (by decide +kernel)) rfl)⟩
theorem ft_field_6_58 : fw_F "FederationWire" 58 6 10 .int false := ⟨_, _, _, cl_6, by decide, by decide +kernel, by decide, Or.inl (fw_in (fw_tb (i := 171) (by decide +kernel)) rfl)⟩
theorem ft_field_6_61 : fw_F "FederationWire" 61 6 11 .int false := ⟨_, _, _, cl_6, by decide, by decide +kernel, by decide, Or.inl (fw_in (fw_tb (i := 172) (by decide +kernel)) rfl)⟩
theorem ft_field_6_64 : fw_F "FederationWire" 64 6 12 .int false := ⟨_, _, _, cl_6, by decide, by decide +kernel, by decide, Or.inl (fw_in (fw_tb (i := 173) (by decide +kernel)) rfl)⟩
theorem ft_new_6_9 : Cond.classLink "FederationWire" 9 "FederationWire$Wire" ∈ fw_WS := fw_in (fw_tb (i := 18) (by decide +kernel)) rfl
theorem ft_callI_6_67 : fw_L "FederationWire" 67 y_Wire_init prog_7_method_1_code 2 none 1 := ⟨fw_in (fw_tb (i := 130) (by decide +kernel)) rfl, fw_in (fw_tb (i := 7) (by decide +kernel)) rfl, by decide, by decide +kernel, Or.inl (fw_in (fw_tb (i := 128) (by decide +kernel)) rfl)⟩
theorem ft_callV_6_119 : fw_L "FederationWire" 119 y_FW_wireAt prog_1_method_19_code 2 (some (.object "FederationWire$Wire")) 1 := ⟨fw_in (fw_tb (i := 212) (by decide +kernel)) rfl, fw_in (fw_tb (i := 1) (by decide +kernel)) rfl, by decide, by decide +kernel, Or.inl (fw_in (fw_tb (i := 209) (by decide +kernel)) rfl)⟩
theorem ft_callV_6_187 : fw_L "FederationWire" 187 y_Wire_send prog_7_method_4_code 3 (some .boolean) 1 := ⟨fw_in (fw_tb (i := 228) (by decide +kernel)) rfl, fw_in (fw_tb (i := 7) (by decide +kernel)) rfl, by decide, by decide +kernel, Or.inl (fw_in (fw_tb (i := 225) (by decide +kernel)) rfl)⟩
theorem ft_field_6_191 : fw_F "FederationWire" 191 3 12 .int false := ⟨_, _, _, cl_3, by decide, by decide +kernel, by decide, Or.inr ⟨"FederationWire", fw_inN (fw_tb (i := 313) (by decide +kernel)) rfl⟩⟩
theorem ft_field_6_160 : fw_F "FederationWire" 160 3 13 .int false := ⟨_, _, _, cl_3, by decide, by decide +kernel, by decide, Or.inr ⟨"FederationWire", fw_inN (fw_tb (i := 315) (by decide +kernel)) rfl⟩⟩
theorem ft_field_6_194 : fw_F "FederationWire" 194 3 9 (.object "FederationWire$Frame") true := ⟨_, _, _, cl_3, by decide, by decide +kernel, by decide, Or.inr ⟨"FederationWire", fw_inN (fw_tb (i := 308) (by decide +kernel)) rfl⟩⟩
theorem ft_callV_6_198 : fw_L "FederationWire" 198 y_FW_send prog_1_method_22_code 4 (some .boolean) 2 := ⟨fw_in (fw_tb (i := 224) (by decide +kernel)) rfl, fw_in (fw_tb (i := 1) (by decide +kernel)) rfl, by decide, by decide +kernel, Or.inl (fw_in (fw_tb (i := 221) (by decide +kernel)) rfl)⟩
theorem ft_callV_6_70 : fw_L "FederationWire" 70 y_FW_houseWire prog_1_method_20_code 2 (some (.object "FederationWire$Wire")) 1 := ⟨fw_in (fw_tb (i := 208) (by decide +kernel)) rfl, fw_in (fw_tb (i := 1) (by decide +kernel)) rfl, by decide, by decide +kernel, Or.inl (fw_in (fw_tb (i := 205) (by decide +kernel)) rfl)⟩
theorem ft_field_6_74 : fw_F "FederationWire" 74 5 0 .boolean false := ⟨_, _, _, cl_5, by decide, by decide +kernel, by decide, Or.inr ⟨"FederationWire", fw_inN (fw_tb (i := 135) (by decide +kernel)) rfl⟩⟩
theorem ft_callV_6_78 : fw_L "FederationWire" 78 y_FW_requestAt prog_1_method_21_code 2 (some (.object "FederationWire$Request")) 1 := ⟨fw_in (fw_tb (i := 216) (by decide +kernel)) rfl, fw_in (fw_tb (i := 1) (by decide +kernel)) rfl, by decide, by decide +kernel, Or.inl (fw_in (fw_tb (i := 213) (by decide +kernel)) rfl)⟩
theorem ft_field_6_82 : fw_F "FederationWire" 82 3 0 .int true := ⟨_, _, _, cl_3, by decide, by decide +kernel, by decide, Or.inr ⟨"FederationWire", fw_inN (fw_tb (i := 296) (by decide +kernel)) rfl⟩⟩
theorem ft_field_6_85 : fw_F "FederationWire" 85 3 14 .int false := ⟨_, _, _, cl_3, by decide, by decide +kernel, by decide, Or.inr ⟨"FederationWire", fw_inN (fw_tb (i := 317) (by decide +kernel)) rfl⟩⟩
theorem ft_callV_6_88 : fw_L "FederationWire" 88 y_FW_sendFirst prog_1_method_23_code 3 (some .boolean) 2 := ⟨fw_in (fw_tb (i := 220) (by decide +kernel)) rfl, fw_in (fw_tb (i := 1) (by decide +kernel)) rfl, by decide, by decide +kernel, Or.inl (fw_in (fw_tb (i := 217) (by decide +kernel)) rfl)⟩
theorem ft_callV_6_92 : fw_L "FederationWire" 92 y_Wire_end prog_7_method_2_code 1 none 0 := ⟨fw_in (fw_tb (i := 248) (by decide +kernel)) rfl, fw_in (fw_tb (i := 7) (by decide +kernel)) rfl, by decide, by decide +kernel, Or.inl (fw_in (fw_tb (i := 245) (by decide +kernel)) rfl)⟩
theorem ft_callS_6_95 : fw_L "FederationWire" 95 y_FW_isByte prog_1_method_18_code 1 (some .boolean) 1 := ⟨fw_in (fw_tb (i := 263) (by decide +kernel)) rfl, fw_in (fw_tb (i := 1) (by decide +kernel)) rfl, by decide, by decide +kernel, Or.inl (fw_in (fw_tb (i := 261) (by decide +kernel)) rfl)⟩
theorem ft_callV_6_99 : fw_L "FederationWire" 99 y_Pairs_add prog_4_method_2_code 3 (some .boolean) 2 := ⟨fw_in (fw_tb (i := 267) (by decide +kernel)) rfl, fw_in (fw_tb (i := 2) (by decide +kernel)) rfl, by decide, by decide +kernel, Or.inl (fw_in (fw_tb (i := 264) (by decide +kernel)) rfl)⟩
theorem ft_field_6_103 : fw_F "FederationWire" 103 2 2 .int false := ⟨_, _, _, cl_2, by decide, by decide +kernel, by decide, Or.inr ⟨"FederationWire", fw_inN (fw_tb (i := 36) (by decide +kernel)) rfl⟩⟩
theorem ft_new_6_15 : Cond.classLink "FederationWire" 15 "FederationWire$Request" ∈ fw_WS := fw_in (fw_tb (i := 20) (by decide +kernel)) rfl
theorem ft_callI_6_106 : fw_L "FederationWire" 106 y_Request_init prog_5_method_1_code 7 none 5 := ⟨fw_in (fw_tb (i := 275) (by decide +kernel)) rfl, fw_in (fw_tb (i := 9) (by decide +kernel)) rfl, by decide, by decide +kernel, Or.inl (fw_in (fw_tb (i := 273) (by decide +kernel)) rfl)⟩
theorem ft_callV_6_109 : fw_L "FederationWire" 109 y_Pairs_clear prog_4_method_5_code 1 none 0 := ⟨fw_in (fw_tb (i := 356) (by decide +kernel)) rfl, fw_in (fw_tb (i := 2) (by decide +kernel)) rfl, by decide, by decide +kernel, Or.inl (fw_in (fw_tb (i := 353) (by decide +kernel)) rfl)⟩
theorem ft_callV_6_112 : fw_L "FederationWire" 112 y_Request_hasKeysLeft prog_5_method_3_code 1 (some .boolean) 0 := ⟨fw_in (fw_tb (i := 360) (by decide +kernel)) rfl, fw_in (fw_tb (i := 9) (by decide +kernel)) rfl, by decide, by decide +kernel, Or.inl (fw_in (fw_tb (i := 357) (by decide +kernel)) rfl)⟩
theorem ft_callV_6_116 : fw_L "FederationWire" 116 y_Request_writeAsk prog_5_method_4_code 3 none 0 := ⟨fw_in (fw_tb (i := 364) (by decide +kernel)) rfl, fw_in (fw_tb (i := 9) (by decide +kernel)) rfl, by decide, by decide +kernel, Or.inl (fw_in (fw_tb (i := 361) (by decide +kernel)) rfl)⟩
theorem ft_field_6_214 : fw_F "FederationWire" 214 0 0 .int false := ⟨_, _, _, cl_0, by decide, by decide +kernel, by decide, Or.inr ⟨"FederationWire", fw_inN (fw_tb (i := 64) (by decide +kernel)) rfl⟩⟩
theorem ft_callV_6_223 : fw_L "FederationWire" 223 y_ServingEnd_answerMore prog_6_method_3_code 5 none 1 := ⟨fw_in (fw_tb (i := 445) (by decide +kernel)) rfl, fw_in (fw_tb (i := 4) (by decide +kernel)) rfl, by decide, by decide +kernel, Or.inl (fw_in (fw_tb (i := 442) (by decide +kernel)) rfl)⟩
theorem ft_field_6_226 : fw_F "FederationWire" 226 4 4 (.object "FederationWire$Frame") true := ⟨_, _, _, cl_4, by decide, by decide +kernel, by decide, Or.inr ⟨"FederationWire", fw_inN (fw_tb (i := 115) (by decide +kernel)) rfl⟩⟩
theorem ft_callV_6_219 : fw_L "FederationWire" 219 y_ServingEnd_answerAsk prog_6_method_2_code 3 none 1 := ⟨fw_in (fw_tb (i := 413) (by decide +kernel)) rfl, fw_in (fw_tb (i := 4) (by decide +kernel)) rfl, by decide, by decide +kernel, Or.inl (fw_in (fw_tb (i := 410) (by decide +kernel)) rfl)⟩
theorem ft_field_6_163 : fw_F "FederationWire" 163 3 5 .int false := ⟨_, _, _, cl_3, by decide, by decide +kernel, by decide, Or.inr ⟨"FederationWire", fw_inN (fw_tb (i := 302) (by decide +kernel)) rfl⟩⟩
theorem ft_field_6_151 : fw_F "FederationWire" 151 3 7 (.object "FederationWire$Pairs") true := ⟨_, _, _, cl_3, by decide, by decide +kernel, by decide, Or.inr ⟨"FederationWire", fw_inN (fw_tb (i := 305) (by decide +kernel)) rfl⟩⟩
theorem ft_field_6_229 : fw_F "FederationWire" 229 0 1 .int false := ⟨_, _, _, cl_0, by decide, by decide +kernel, by decide, Or.inr ⟨"FederationWire", fw_inN (fw_tb (i := 68) (by decide +kernel)) rfl⟩⟩
theorem ft_callV_6_232 : fw_L "FederationWire" 232 y_Request_waitsFor prog_5_method_7_code 3 (some .boolean) 2 := ⟨fw_in (fw_tb (i := 453) (by decide +kernel)) rfl, fw_in (fw_tb (i := 9) (by decide +kernel)) rfl, by decide, by decide +kernel, Or.inl (fw_in (fw_tb (i := 450) (by decide +kernel)) rfl)⟩
theorem ft_callV_6_239 : fw_L "FederationWire" 239 y_Request_takeRows prog_5_method_8_code 3 none 1 := ⟨fw_in (fw_tb (i := 463) (by decide +kernel)) rfl, fw_in (fw_tb (i := 9) (by decide +kernel)) rfl, by decide, by decide +kernel, Or.inl (fw_in (fw_tb (i := 460) (by decide +kernel)) rfl)⟩
theorem ft_callV_6_242 : fw_L "FederationWire" 242 y_Frame_byteAt prog_2_method_4_code 2 (some .int) 1 := ⟨fw_in (fw_tb (i := 236) (by decide +kernel)) rfl, fw_in (fw_tb (i := 5) (by decide +kernel)) rfl, by decide, by decide +kernel, Or.inl (fw_in (fw_tb (i := 464) (by decide +kernel)) rfl)⟩
theorem ft_callV_6_248 : fw_L "FederationWire" 248 y_FW_learn prog_1_method_27_code 4 none 1 := ⟨fw_in (fw_tb (i := 472) (by decide +kernel)) rfl, fw_in (fw_tb (i := 1) (by decide +kernel)) rfl, by decide, by decide +kernel, Or.inl (fw_in (fw_tb (i := 469) (by decide +kernel)) rfl)⟩
theorem ft_callV_6_245 : fw_L "FederationWire" 245 y_Request_writeMore prog_5_method_5_code 1 none 0 := ⟨fw_in (fw_tb (i := 468) (by decide +kernel)) rfl, fw_in (fw_tb (i := 9) (by decide +kernel)) rfl, by decide, by decide +kernel, Or.inl (fw_in (fw_tb (i := 465) (by decide +kernel)) rfl)⟩
theorem ft_callV_6_236 : fw_L "FederationWire" 236 y_Request_fail prog_5_method_9_code 2 none 1 := ⟨fw_in (fw_tb (i := 458) (by decide +kernel)) rfl, fw_in (fw_tb (i := 9) (by decide +kernel)) rfl, by decide, by decide +kernel, Or.inl (fw_in (fw_tb (i := 455) (by decide +kernel)) rfl)⟩
theorem ft_callV_6_201 : fw_L "FederationWire" 201 y_Wire_accept prog_7_method_7_code 2 (some .int) 1 := ⟨fw_in (fw_tb (i := 391) (by decide +kernel)) rfl, fw_in (fw_tb (i := 7) (by decide +kernel)) rfl, by decide, by decide +kernel, Or.inl (fw_in (fw_tb (i := 388) (by decide +kernel)) rfl)⟩
theorem ft_field_6_204 : fw_F "FederationWire" 204 5 4 (.object "FederationWire$Frame") true := ⟨_, _, _, cl_5, by decide, by decide +kernel, by decide, Or.inr ⟨"FederationWire", fw_inN (fw_tb (i := 141) (by decide +kernel)) rfl⟩⟩
theorem ft_callV_6_210 : fw_L "FederationWire" 210 y_FW_hear prog_1_method_26_code 5 (some .boolean) 3 := ⟨fw_in (fw_tb (i := 449) (by decide +kernel)) rfl, fw_in (fw_tb (i := 1) (by decide +kernel)) rfl, by decide, by decide +kernel, Or.inl (fw_in (fw_tb (i := 446) (by decide +kernel)) rfl)⟩
theorem ft_callV_6_207 : fw_L "FederationWire" 207 y_FW_serve prog_1_method_25_code 3 (some .boolean) 2 := ⟨fw_in (fw_tb (i := 409) (by decide +kernel)) rfl, fw_in (fw_tb (i := 1) (by decide +kernel)) rfl, by decide, by decide +kernel, Or.inl (fw_in (fw_tb (i := 406) (by decide +kernel)) rfl)⟩
theorem ft_field_6_184 : fw_F "FederationWire" 184 5 5 .int false := ⟨_, _, _, cl_5, by decide, by decide +kernel, by decide, Or.inr ⟨"FederationWire", fw_inN (fw_tb (i := 143) (by decide +kernel)) rfl⟩⟩
theorem ft_callV_6_122 : fw_L "FederationWire" 122 y_FW_take prog_1_method_24_code 7 (some .int) 3 := ⟨fw_in (fw_tb (i := 387) (by decide +kernel)) rfl, fw_in (fw_tb (i := 1) (by decide +kernel)) rfl, by decide, by decide +kernel, Or.inl (fw_in (fw_tb (i := 384) (by decide +kernel)) rfl)⟩
theorem ft_callV_6_126 : fw_L "FederationWire" 126 y_Wire_takeFirst prog_7_method_6_code 2 (some .int) 0 := ⟨fw_in (fw_tb (i := 480) (by decide +kernel)) rfl, fw_in (fw_tb (i := 7) (by decide +kernel)) rfl, by decide, by decide +kernel, Or.inl (fw_in (fw_tb (i := 477) (by decide +kernel)) rfl)⟩
theorem ft_field_6_130 : fw_F "FederationWire" 130 5 3 .int false := ⟨_, _, _, cl_5, by decide, by decide +kernel, by decide, Or.inr ⟨"FederationWire", fw_inN (fw_tb (i := 139) (by decide +kernel)) rfl⟩⟩
theorem ft_min_6_133 : Cond.methodLink "FederationWire" 133 Lib.Math.min.name ∈ fw_WS := fw_in (fw_tb (i := 485) (by decide +kernel)) rfl
theorem ft_callV_6_139 : fw_L "FederationWire" 139 y_Wire_clearOut prog_7_method_3_code 1 none 0 := ⟨fw_in (fw_tb (i := 252) (by decide +kernel)) rfl, fw_in (fw_tb (i := 7) (by decide +kernel)) rfl, by decide, by decide +kernel, Or.inl (fw_in (fw_tb (i := 486) (by decide +kernel)) rfl)⟩
theorem ft_ldc_6_254 : Cond.constant "FederationWire" 254 2147483647 ∈ fw_WS := fw_in (fw_tb (i := 495) (by decide +kernel)) rfl
theorem ft_callV_6_255 : fw_L "FederationWire" 255 y_FW_repeat prog_1_method_30_code 3 none 1 := ⟨fw_in (fw_tb (i := 503) (by decide +kernel)) rfl, fw_in (fw_tb (i := 1) (by decide +kernel)) rfl, by decide, by decide +kernel, Or.inl (fw_in (fw_tb (i := 500) (by decide +kernel)) rfl)⟩
theorem ft_callV_6_142 : fw_L "FederationWire" 142 y_FW_earliestDue prog_1_method_28_code 4 (some .int) 0 := ⟨fw_in (fw_tb (i := 494) (by decide +kernel)) rfl, fw_in (fw_tb (i := 1) (by decide +kernel)) rfl, by decide, by decide +kernel, Or.inl (fw_in (fw_tb (i := 491) (by decide +kernel)) rfl)⟩
theorem ft_callV_6_145 : fw_L "FederationWire" 145 y_FW_settleDue prog_1_method_29_code 4 (some .int) 0 := ⟨fw_in (fw_tb (i := 499) (by decide +kernel)) rfl, fw_in (fw_tb (i := 1) (by decide +kernel)) rfl, by decide, by decide +kernel, Or.inl (fw_in (fw_tb (i := 496) (by decide +kernel)) rfl)⟩
theorem ft_field_6_148 : fw_F "FederationWire" 148 3 15 .int false := ⟨_, _, _, cl_3, by decide, by decide +kernel, by decide, Or.inr ⟨"FederationWire", fw_inN (fw_tb (i := 319) (by decide +kernel)) rfl⟩⟩
theorem ft_callV_6_154 : fw_L "FederationWire" 154 y_Request_joinedSize prog_5_method_10_code 4 (some .int) 0 := ⟨fw_in (fw_tb (i := 511) (by decide +kernel)) rfl, fw_in (fw_tb (i := 9) (by decide +kernel)) rfl, by decide, by decide +kernel, Or.inl (fw_in (fw_tb (i := 508) (by decide +kernel)) rfl)⟩
theorem ft_field_6_157 : fw_F "FederationWire" 157 3 11 .int false := ⟨_, _, _, cl_3, by decide, by decide +kernel, by decide, Or.inr ⟨"FederationWire", fw_inN (fw_tb (i := 311) (by decide +kernel)) rfl⟩⟩
theorem ft_callV_6_170 : fw_L "FederationWire" 170 y_Pairs_valueAt prog_4_method_4_code 2 (some .int) 1 := ⟨fw_in (fw_tb (i := 289) (by decide +kernel)) rfl, fw_in (fw_tb (i := 2) (by decide +kernel)) rfl, by decide, by decide +kernel, Or.inl (fw_in (fw_tb (i := 517) (by decide +kernel)) rfl)⟩
theorem ft_callV_6_166 : fw_L "FederationWire" 166 y_Pairs_keyAt prog_4_method_3_code 2 (some .int) 1 := ⟨fw_in (fw_tb (i := 285) (by decide +kernel)) rfl, fw_in (fw_tb (i := 2) (by decide +kernel)) rfl, by decide, by decide +kernel, Or.inl (fw_in (fw_tb (i := 516) (by decide +kernel)) rfl)⟩
theorem ft_callV_6_173 : fw_L "FederationWire" 173 y_Request_joinedPart prog_5_method_11_code 6 (some .int) 2 := ⟨fw_in (fw_tb (i := 525) (by decide +kernel)) rfl, fw_in (fw_tb (i := 9) (by decide +kernel)) rfl, by decide, by decide +kernel, Or.inl (fw_in (fw_tb (i := 522) (by decide +kernel)) rfl)⟩
theorem ft_field_6_177 : fw_F "FederationWire" 177 4 0 (.object "FederationWire$Pairs") true := ⟨_, _, _, cl_4, by decide, by decide +kernel, by decide, Or.inr ⟨"FederationWire", fw_inN (fw_tb (i := 108) (by decide +kernel)) rfl⟩⟩
theorem ft_field_6_180 : fw_F "FederationWire" 180 4 3 .int false := ⟨_, _, _, cl_4, by decide, by decide +kernel, by decide, Or.inr ⟨"FederationWire", fw_inN (fw_tb (i := 113) (by decide +kernel)) rfl⟩⟩
theorem ft_field_6_181 : fw_F "FederationWire" 181 4 2 .int false := ⟨_, _, _, cl_4, by decide, by decide +kernel, by decide, Or.inr ⟨"FederationWire", fw_inN (fw_tb (i := 111) (by decide +kernel)) rfl⟩⟩
theorem ft_obj_7_1 : Cond.methodLink "FederationWireModel" 1 objectInit ∈ fw_WS := fw_in (fw_tb (i := 551) (by decide +kernel)) rfl
theorem ft_field_7_7 : fw_F "FederationWireModel" 7 7 0 (.array .boolean) true := ⟨_, _, _, cl_7, by decide, by decide +kernel, by decide, Or.inl (fw_in (fw_tb (i := 552) (by decide +kernel)) rfl)⟩
theorem ft_nonest_7_7 : ∀ host Cn nm d, Cond.fieldLinkNest "FederationWireModel" 7 Cn nm d host ∉ fw_NS := fw_noN "FederationWireModel" 7 (by decide +kernel)
theorem ft_field_7_13 : fw_F "FederationWireModel" 13 7 1 (.array .int) true := ⟨_, _, _, cl_7, by decide, by decide +kernel, by decide, Or.inl (fw_in (fw_tb (i := 553) (by decide +kernel)) rfl)⟩
theorem ft_nonest_7_13 : ∀ host Cn nm d, Cond.fieldLinkNest "FederationWireModel" 13 Cn nm d host ∉ fw_NS := fw_noN "FederationWireModel" 13 (by decide +kernel)
theorem ft_field_7_17 : fw_F "FederationWireModel" 17 7 2 (.array .int) true := ⟨_, _, _, cl_7, by decide, by decide +kernel, by decide, Or.inl (fw_in (fw_tb (i := 554) (by decide +kernel)) rfl)⟩
theorem ft_nonest_7_17 : ∀ host Cn nm d, Cond.fieldLinkNest "FederationWireModel" 17 Cn nm d host ∉ fw_NS := fw_noN "FederationWireModel" 17 (by decide +kernel)
theorem ft_field_7_20 : fw_F "FederationWireModel" 20 7 3 (.array .int) true := ⟨_, _, _, cl_7, by decide, by decide +kernel, by decide, Or.inl (fw_in (fw_tb (i := 555) (by decide +kernel)) rfl)⟩
theorem ft_nonest_7_20 : ∀ host Cn nm d, Cond.fieldLinkNest "FederationWireModel" 20 Cn nm d host ∉ fw_NS := fw_noN "FederationWireModel" 20 (by decide +kernel)
theorem ft_field_7_23 : fw_F "FederationWireModel" 23 7 4 (.array .int) true := ⟨_, _, _, cl_7, by decide, by decide +kernel, by decide, Or.inl (fw_in (fw_tb (i := 556) (by decide +kernel)) rfl)⟩
theorem ft_nonest_7_23 : ∀ host Cn nm d, Cond.fieldLinkNest "FederationWireModel" 23 Cn nm d host ∉ fw_NS := fw_noN "FederationWireModel" 23 (by decide +kernel)
theorem ft_field_7_26 : fw_F "FederationWireModel" 26 7 5 .int false := ⟨_, _, _, cl_7, by decide, by decide +kernel, by decide, Or.inl (fw_in (fw_tb (i := 557) (by decide +kernel)) rfl)⟩
theorem ft_field_7_30 : fw_F "FederationWireModel" 30 7 6 .int false := ⟨_, _, _, cl_7, by decide, by decide +kernel, by decide, Or.inl (fw_in (fw_tb (i := 558) (by decide +kernel)) rfl)⟩
theorem ft_field_7_33 : fw_F "FederationWireModel" 33 7 7 .int false := ⟨_, _, _, cl_7, by decide, by decide +kernel, by decide, Or.inl (fw_in (fw_tb (i := 559) (by decide +kernel)) rfl)⟩
theorem ft_field_7_36 : fw_F "FederationWireModel" 36 7 12 (.array .int) true := ⟨_, _, _, cl_7, by decide, by decide +kernel, by decide, Or.inl (fw_in (fw_tb (i := 564) (by decide +kernel)) rfl)⟩
theorem ft_nonest_7_36 : ∀ host Cn nm d, Cond.fieldLinkNest "FederationWireModel" 36 Cn nm d host ∉ fw_NS := fw_noN "FederationWireModel" 36 (by decide +kernel)
theorem ft_field_7_39 : fw_F "FederationWireModel" 39 7 13 (.array .int) true := ⟨_, _, _, cl_7, by decide, by decide +kernel, by decide, Or.inl (fw_in (fw_tb (i := 565) (by decide +kernel)) rfl)⟩
theorem ft_nonest_7_39 : ∀ host Cn nm d, Cond.fieldLinkNest "FederationWireModel" 39 Cn nm d host ∉ fw_NS := fw_noN "FederationWireModel" 39 (by decide +kernel)
theorem ft_field_7_42 : fw_F "FederationWireModel" 42 7 15 (.array .int) true := ⟨_, _, _, cl_7, by decide, by decide +kernel, by decide, Or.inl (fw_in (fw_tb (i := 567) (by decide +kernel)) rfl)⟩
theorem ft_nonest_7_42 : ∀ host Cn nm d, Cond.fieldLinkNest "FederationWireModel" 42 Cn nm d host ∉ fw_NS := fw_noN "FederationWireModel" 42 (by decide +kernel)
theorem ft_field_7_45 : fw_F "FederationWireModel" 45 7 16 (.array .boolean) true := ⟨_, _, _, cl_7, by decide, by decide +kernel, by decide, Or.inl (fw_in (fw_tb (i := 568) (by decide +kernel)) rfl)⟩
theorem ft_nonest_7_45 : ∀ host Cn nm d, Cond.fieldLinkNest "FederationWireModel" 45 Cn nm d host ∉ fw_NS := fw_noN "FederationWireModel" 45 (by decide +kernel)
theorem ft_field_7_48 : fw_F "FederationWireModel" 48 7 17 (.array .int) true := ⟨_, _, _, cl_7, by decide, by decide +kernel, by decide, Or.inl (fw_in (fw_tb (i := 569) (by decide +kernel)) rfl)⟩
theorem ft_nonest_7_48 : ∀ host Cn nm d, Cond.fieldLinkNest "FederationWireModel" 48 Cn nm d host ∉ fw_NS := fw_noN "FederationWireModel" 48 (by decide +kernel)
theorem ft_field_7_51 : fw_F "FederationWireModel" 51 7 18 (.array .int) true := ⟨_, _, _, cl_7, by decide, by decide +kernel, by decide, Or.inl (fw_in (fw_tb (i := 570) (by decide +kernel)) rfl)⟩
theorem ft_nonest_7_51 : ∀ host Cn nm d, Cond.fieldLinkNest "FederationWireModel" 51 Cn nm d host ∉ fw_NS := fw_noN "FederationWireModel" 51 (by decide +kernel)
theorem ft_field_7_54 : fw_F "FederationWireModel" 54 7 19 (.array .int) true := ⟨_, _, _, cl_7, by decide, by decide +kernel, by decide, Or.inl (fw_in (fw_tb (i := 571) (by decide +kernel)) rfl)⟩
theorem ft_nonest_7_54 : ∀ host Cn nm d, Cond.fieldLinkNest "FederationWireModel" 54 Cn nm d host ∉ fw_NS := fw_noN "FederationWireModel" 54 (by decide +kernel)
theorem ft_field_7_57 : fw_F "FederationWireModel" 57 7 20 (.array .int) true := ⟨_, _, _, cl_7, by decide, by decide +kernel, by decide, Or.inl (fw_in (fw_tb (i := 572) (by decide +kernel)) rfl)⟩
theorem ft_nonest_7_57 : ∀ host Cn nm d, Cond.fieldLinkNest "FederationWireModel" 57 Cn nm d host ∉ fw_NS := fw_noN "FederationWireModel" 57 (by decide +kernel)
theorem ft_field_7_60 : fw_F "FederationWireModel" 60 7 21 (.array .int) true := ⟨_, _, _, cl_7, by decide, by decide +kernel, by decide, Or.inl (fw_in (fw_tb (i := 573) (by decide +kernel)) rfl)⟩
theorem ft_nonest_7_60 : ∀ host Cn nm d, Cond.fieldLinkNest "FederationWireModel" 60 Cn nm d host ∉ fw_NS := fw_noN "FederationWireModel" 60 (by decide +kernel)
theorem ft_field_7_63 : fw_F "FederationWireModel" 63 7 22 (.array .int) true := ⟨_, _, _, cl_7, by decide, by decide +kernel, by decide, Or.inl (fw_in (fw_tb (i := 574) (by decide +kernel)) rfl)⟩
theorem ft_nonest_7_63 : ∀ host Cn nm d, Cond.fieldLinkNest "FederationWireModel" 63 Cn nm d host ∉ fw_NS := fw_noN "FederationWireModel" 63 (by decide +kernel)
theorem ft_field_7_66 : fw_F "FederationWireModel" 66 7 23 (.array .int) true := ⟨_, _, _, cl_7, by decide, by decide +kernel, by decide, Or.inl (fw_in (fw_tb (i := 575) (by decide +kernel)) rfl)⟩
theorem ft_nonest_7_66 : ∀ host Cn nm d, Cond.fieldLinkNest "FederationWireModel" 66 Cn nm d host ∉ fw_NS := fw_noN "FederationWireModel" 66 (by decide +kernel)
theorem ft_field_7_69 : fw_F "FederationWireModel" 69 7 24 (.array .int) true := ⟨_, _, _, cl_7, by decide, by decide +kernel, by decide, Or.inl (fw_in (fw_tb (i := 576) (by decide +kernel)) rfl)⟩
theorem ft_nonest_7_69 : ∀ host Cn nm d, Cond.fieldLinkNest "FederationWireModel" 69 Cn nm d host ∉ fw_NS := fw_noN "FederationWireModel" 69 (by decide +kernel)
theorem ft_field_7_72 : fw_F "FederationWireModel" 72 7 25 (.array .int) true := ⟨_, _, _, cl_7, by decide, by decide +kernel, by decide, Or.inl (fw_in (fw_tb (i := 577) (by decide +kernel)) rfl)⟩
theorem ft_nonest_7_72 : ∀ host Cn nm d, Cond.fieldLinkNest "FederationWireModel" 72 Cn nm d host ∉ fw_NS := fw_noN "FederationWireModel" 72 (by decide +kernel)
theorem ft_field_7_75 : fw_F "FederationWireModel" 75 7 26 (.array .int) true := ⟨_, _, _, cl_7, by decide, by decide +kernel, by decide, Or.inl (fw_in (fw_tb (i := 578) (by decide +kernel)) rfl)⟩
theorem ft_nonest_7_75 : ∀ host Cn nm d, Cond.fieldLinkNest "FederationWireModel" 75 Cn nm d host ∉ fw_NS := fw_noN "FederationWireModel" 75 (by decide +kernel)
theorem ft_field_7_78 : fw_F "FederationWireModel" 78 7 27 (.array .int) true := ⟨_, _, _, cl_7, by decide, by decide +kernel, by decide, Or.inl (fw_in (fw_tb (i := 579) (by decide +kernel)) rfl)⟩
theorem ft_nonest_7_78 : ∀ host Cn nm d, Cond.fieldLinkNest "FederationWireModel" 78 Cn nm d host ∉ fw_NS := fw_noN "FederationWireModel" 78 (by decide +kernel)
theorem ft_field_7_81 : fw_F "FederationWireModel" 81 7 28 (.array .int) true := ⟨_, _, _, cl_7, by decide, by decide +kernel, by decide, Or.inl (fw_in (fw_tb (i := 580) (by decide +kernel)) rfl)⟩
theorem ft_nonest_7_81 : ∀ host Cn nm d, Cond.fieldLinkNest "FederationWireModel" 81 Cn nm d host ∉ fw_NS := fw_noN "FederationWireModel" 81 (by decide +kernel)
theorem ft_field_7_84 : fw_F "FederationWireModel" 84 7 29 (.array .int) true := ⟨_, _, _, cl_7, by decide, by decide +kernel, by decide, Or.inl (fw_in (fw_tb (i := 581) (by decide +kernel)) rfl)⟩
theorem ft_nonest_7_84 : ∀ host Cn nm d, Cond.fieldLinkNest "FederationWireModel" 84 Cn nm d host ∉ fw_NS := fw_noN "FederationWireModel" 84 (by decide +kernel)
theorem ft_field_7_87 : fw_F "FederationWireModel" 87 7 30 (.array .int) true := ⟨_, _, _, cl_7, by decide, by decide +kernel, by decide, Or.inl (fw_in (fw_tb (i := 582) (by decide +kernel)) rfl)⟩
theorem ft_nonest_7_87 : ∀ host Cn nm d, Cond.fieldLinkNest "FederationWireModel" 87 Cn nm d host ∉ fw_NS := fw_noN "FederationWireModel" 87 (by decide +kernel)
theorem ft_field_7_90 : fw_F "FederationWireModel" 90 7 31 (.array .int) true := ⟨_, _, _, cl_7, by decide, by decide +kernel, by decide, Or.inl (fw_in (fw_tb (i := 583) (by decide +kernel)) rfl)⟩
theorem ft_nonest_7_90 : ∀ host Cn nm d, Cond.fieldLinkNest "FederationWireModel" 90 Cn nm d host ∉ fw_NS := fw_noN "FederationWireModel" 90 (by decide +kernel)
theorem ft_field_7_93 : fw_F "FederationWireModel" 93 7 32 (.array .int) true := ⟨_, _, _, cl_7, by decide, by decide +kernel, by decide, Or.inl (fw_in (fw_tb (i := 584) (by decide +kernel)) rfl)⟩
theorem ft_nonest_7_93 : ∀ host Cn nm d, Cond.fieldLinkNest "FederationWireModel" 93 Cn nm d host ∉ fw_NS := fw_noN "FederationWireModel" 93 (by decide +kernel)
theorem ft_field_7_96 : fw_F "FederationWireModel" 96 7 33 (.array .int) true := ⟨_, _, _, cl_7, by decide, by decide +kernel, by decide, Or.inl (fw_in (fw_tb (i := 585) (by decide +kernel)) rfl)⟩
theorem ft_nonest_7_96 : ∀ host Cn nm d, Cond.fieldLinkNest "FederationWireModel" 96 Cn nm d host ∉ fw_NS := fw_noN "FederationWireModel" 96 (by decide +kernel)
theorem ft_field_7_99 : fw_F "FederationWireModel" 99 7 34 (.array .int) true := ⟨_, _, _, cl_7, by decide, by decide +kernel, by decide, Or.inl (fw_in (fw_tb (i := 586) (by decide +kernel)) rfl)⟩
theorem ft_nonest_7_99 : ∀ host Cn nm d, Cond.fieldLinkNest "FederationWireModel" 99 Cn nm d host ∉ fw_NS := fw_noN "FederationWireModel" 99 (by decide +kernel)
theorem ft_field_7_102 : fw_F "FederationWireModel" 102 7 35 (.array .int) true := ⟨_, _, _, cl_7, by decide, by decide +kernel, by decide, Or.inl (fw_in (fw_tb (i := 587) (by decide +kernel)) rfl)⟩
theorem ft_nonest_7_102 : ∀ host Cn nm d, Cond.fieldLinkNest "FederationWireModel" 102 Cn nm d host ∉ fw_NS := fw_noN "FederationWireModel" 102 (by decide +kernel)
theorem ft_field_7_105 : fw_F "FederationWireModel" 105 7 36 (.array .int) true := ⟨_, _, _, cl_7, by decide, by decide +kernel, by decide, Or.inl (fw_in (fw_tb (i := 588) (by decide +kernel)) rfl)⟩
theorem ft_nonest_7_105 : ∀ host Cn nm d, Cond.fieldLinkNest "FederationWireModel" 105 Cn nm d host ∉ fw_NS := fw_noN "FederationWireModel" 105 (by decide +kernel)
theorem ft_field_7_108 : fw_F "FederationWireModel" 108 7 37 (.array .boolean) true := ⟨_, _, _, cl_7, by decide, by decide +kernel, by decide, Or.inl (fw_in (fw_tb (i := 589) (by decide +kernel)) rfl)⟩
theorem ft_nonest_7_108 : ∀ host Cn nm d, Cond.fieldLinkNest "FederationWireModel" 108 Cn nm d host ∉ fw_NS := fw_noN "FederationWireModel" 108 (by decide +kernel)
theorem ft_field_7_111 : fw_F "FederationWireModel" 111 7 39 (.array .int) true := ⟨_, _, _, cl_7, by decide, by decide +kernel, by decide, Or.inl (fw_in (fw_tb (i := 591) (by decide +kernel)) rfl)⟩
theorem ft_nonest_7_111 : ∀ host Cn nm d, Cond.fieldLinkNest "FederationWireModel" 111 Cn nm d host ∉ fw_NS := fw_noN "FederationWireModel" 111 (by decide +kernel)
theorem ft_field_7_114 : fw_F "FederationWireModel" 114 7 40 (.array .int) true := ⟨_, _, _, cl_7, by decide, by decide +kernel, by decide, Or.inl (fw_in (fw_tb (i := 592) (by decide +kernel)) rfl)⟩
theorem ft_nonest_7_114 : ∀ host Cn nm d, Cond.fieldLinkNest "FederationWireModel" 114 Cn nm d host ∉ fw_NS := fw_noN "FederationWireModel" 114 (by decide +kernel)
theorem ft_field_7_117 : fw_F "FederationWireModel" 117 7 43 (.array .int) true := ⟨_, _, _, cl_7, by decide, by decide +kernel, by decide, Or.inl (fw_in (fw_tb (i := 595) (by decide +kernel)) rfl)⟩
theorem ft_nonest_7_117 : ∀ host Cn nm d, Cond.fieldLinkNest "FederationWireModel" 117 Cn nm d host ∉ fw_NS := fw_noN "FederationWireModel" 117 (by decide +kernel)
theorem ft_field_7_120 : fw_F "FederationWireModel" 120 7 44 (.array .int) true := ⟨_, _, _, cl_7, by decide, by decide +kernel, by decide, Or.inl (fw_in (fw_tb (i := 596) (by decide +kernel)) rfl)⟩
theorem ft_nonest_7_120 : ∀ host Cn nm d, Cond.fieldLinkNest "FederationWireModel" 120 Cn nm d host ∉ fw_NS := fw_noN "FederationWireModel" 120 (by decide +kernel)
theorem ft_field_7_123 : fw_F "FederationWireModel" 123 7 45 (.array .int) true := ⟨_, _, _, cl_7, by decide, by decide +kernel, by decide, Or.inl (fw_in (fw_tb (i := 597) (by decide +kernel)) rfl)⟩
theorem ft_nonest_7_123 : ∀ host Cn nm d, Cond.fieldLinkNest "FederationWireModel" 123 Cn nm d host ∉ fw_NS := fw_noN "FederationWireModel" 123 (by decide +kernel)
theorem ft_field_7_126 : fw_F "FederationWireModel" 126 7 46 (.array .int) true := ⟨_, _, _, cl_7, by decide, by decide +kernel, by decide, Or.inl (fw_in (fw_tb (i := 598) (by decide +kernel)) rfl)⟩
theorem ft_nonest_7_126 : ∀ host Cn nm d, Cond.fieldLinkNest "FederationWireModel" 126 Cn nm d host ∉ fw_NS := fw_noN "FederationWireModel" 126 (by decide +kernel)
theorem ft_field_7_129 : fw_F "FederationWireModel" 129 7 47 (.array .int) true := ⟨_, _, _, cl_7, by decide, by decide +kernel, by decide, Or.inl (fw_in (fw_tb (i := 599) (by decide +kernel)) rfl)⟩
theorem ft_nonest_7_129 : ∀ host Cn nm d, Cond.fieldLinkNest "FederationWireModel" 129 Cn nm d host ∉ fw_NS := fw_noN "FederationWireModel" 129 (by decide +kernel)
theorem ft_field_7_132 : fw_F "FederationWireModel" 132 7 48 (.array .int) true := ⟨_, _, _, cl_7, by decide, by decide +kernel, by decide, Or.inl (fw_in (fw_tb (i := 600) (by decide +kernel)) rfl)⟩
theorem ft_nonest_7_132 : ∀ host Cn nm d, Cond.fieldLinkNest "FederationWireModel" 132 Cn nm d host ∉ fw_NS := fw_noN "FederationWireModel" 132 (by decide +kernel)
theorem ft_field_7_135 : fw_F "FederationWireModel" 135 7 50 (.array .int) true := ⟨_, _, _, cl_7, by decide, by decide +kernel, by decide, Or.inl (fw_in (fw_tb (i := 602) (by decide +kernel)) rfl)⟩
theorem ft_nonest_7_135 : ∀ host Cn nm d, Cond.fieldLinkNest "FederationWireModel" 135 Cn nm d host ∉ fw_NS := fw_noN "FederationWireModel" 135 (by decide +kernel)
theorem ft_field_7_141 : fw_F "FederationWireModel" 141 7 10 .int false := ⟨_, _, _, cl_7, by decide, by decide +kernel, by decide, Or.inl (fw_in (fw_tb (i := 562) (by decide +kernel)) rfl)⟩
theorem ft_field_7_138 : fw_F "FederationWireModel" 138 7 49 .int false := ⟨_, _, _, cl_7, by decide, by decide +kernel, by decide, Or.inl (fw_in (fw_tb (i := 601) (by decide +kernel)) rfl)⟩
theorem ft_field_7_148 : fw_F "FederationWireModel" 148 7 8 .int false := ⟨_, _, _, cl_7, by decide, by decide +kernel, by decide, Or.inl (fw_in (fw_tb (i := 560) (by decide +kernel)) rfl)⟩
theorem ft_callV_7_151 : fw_L "FederationWireModel" 151 y_Mo_send prog_9_method_3_code 7 (some .boolean) 3 := ⟨fw_in (fw_tb (i := 744) (by decide +kernel)) rfl, fw_in (fw_tb (i := 8) (by decide +kernel)) rfl, by decide, by decide +kernel, Or.inl (fw_in (fw_tb (i := 741) (by decide +kernel)) rfl)⟩
theorem ft_callV_7_144 : fw_L "FederationWireModel" 144 y_Mo_put prog_9_method_4_code 2 none 1 := ⟨fw_in (fw_tb (i := 732) (by decide +kernel)) rfl, fw_in (fw_tb (i := 8) (by decide +kernel)) rfl, by decide, by decide +kernel, Or.inl (fw_in (fw_tb (i := 729) (by decide +kernel)) rfl)⟩
theorem ft_callV_7_155 : fw_L "FederationWireModel" 155 y_Mo_sendLast prog_9_method_5_code 3 (some .boolean) 1 := ⟨fw_in (fw_tb (i := 740) (by decide +kernel)) rfl, fw_in (fw_tb (i := 8) (by decide +kernel)) rfl, by decide, by decide +kernel, Or.inl (fw_in (fw_tb (i := 737) (by decide +kernel)) rfl)⟩
theorem ft_callV_7_159 : fw_L "FederationWireModel" 159 y_Mo_keep prog_9_method_6_code 4 none 2 := ⟨fw_in (fw_tb (i := 736) (by decide +kernel)) rfl, fw_in (fw_tb (i := 8) (by decide +kernel)) rfl, by decide, by decide +kernel, Or.inl (fw_in (fw_tb (i := 733) (by decide +kernel)) rfl)⟩
theorem ft_callS_7_163 : fw_L "FederationWireModel" 163 y_Mo_isIn prog_9_method_2_code 3 (some .boolean) 3 := ⟨fw_in (fw_tb (i := 712) (by decide +kernel)) rfl, fw_in (fw_tb (i := 8) (by decide +kernel)) rfl, by decide, by decide +kernel, Or.inl (fw_in (fw_tb (i := 710) (by decide +kernel)) rfl)⟩
theorem ft_field_7_166 : fw_F "FederationWireModel" 166 7 11 .int false := ⟨_, _, _, cl_7, by decide, by decide +kernel, by decide, Or.inl (fw_in (fw_tb (i := 563) (by decide +kernel)) rfl)⟩
theorem ft_field_7_169 : fw_F "FederationWireModel" 169 7 14 .int false := ⟨_, _, _, cl_7, by decide, by decide +kernel, by decide, Or.inl (fw_in (fw_tb (i := 566) (by decide +kernel)) rfl)⟩
theorem ft_callV_7_175 : fw_L "FederationWireModel" 175 y_Mo_askPart prog_9_method_7_code 3 none 1 := ⟨fw_in (fw_tb (i := 728) (by decide +kernel)) rfl, fw_in (fw_tb (i := 8) (by decide +kernel)) rfl, by decide, by decide +kernel, Or.inl (fw_in (fw_tb (i := 725) (by decide +kernel)) rfl)⟩
theorem ft_callV_7_172 : fw_L "FederationWireModel" 172 y_Mo_addKey prog_9_method_13_code 4 none 2 := ⟨fw_in (fw_tb (i := 724) (by decide +kernel)) rfl, fw_in (fw_tb (i := 8) (by decide +kernel)) rfl, by decide, by decide +kernel, Or.inl (fw_in (fw_tb (i := 721) (by decide +kernel)) rfl)⟩
theorem ft_callV_7_181 : fw_L "FederationWireModel" 181 y_Mo_finish prog_9_method_8_code 4 none 1 := ⟨fw_in (fw_tb (i := 803) (by decide +kernel)) rfl, fw_in (fw_tb (i := 8) (by decide +kernel)) rfl, by decide, by decide +kernel, Or.inl (fw_in (fw_tb (i := 800) (by decide +kernel)) rfl)⟩
theorem ft_callV_7_178 : fw_L "FederationWireModel" 178 y_Mo_fail prog_9_method_9_code 3 none 2 := ⟨fw_in (fw_tb (i := 799) (by decide +kernel)) rfl, fw_in (fw_tb (i := 8) (by decide +kernel)) rfl, by decide, by decide +kernel, Or.inl (fw_in (fw_tb (i := 796) (by decide +kernel)) rfl)⟩
theorem ft_field_7_184 : fw_F "FederationWireModel" 184 7 38 .int false := ⟨_, _, _, cl_7, by decide, by decide +kernel, by decide, Or.inl (fw_in (fw_tb (i := 590) (by decide +kernel)) rfl)⟩
theorem ft_field_7_187 : fw_F "FederationWireModel" 187 7 41 .int false := ⟨_, _, _, cl_7, by decide, by decide +kernel, by decide, Or.inl (fw_in (fw_tb (i := 593) (by decide +kernel)) rfl)⟩
theorem ft_callV_7_190 : fw_L "FederationWireModel" 190 y_Mo_copy prog_9_method_18_code 4 none 2 := ⟨fw_in (fw_tb (i := 787) (by decide +kernel)) rfl, fw_in (fw_tb (i := 8) (by decide +kernel)) rfl, by decide, by decide +kernel, Or.inl (fw_in (fw_tb (i := 784) (by decide +kernel)) rfl)⟩
theorem ft_callV_7_193 : fw_L "FederationWireModel" 193 y_Mo_placeOf prog_9_method_17_code 4 (some .int) 1 := ⟨fw_in (fw_tb (i := 775) (by decide +kernel)) rfl, fw_in (fw_tb (i := 8) (by decide +kernel)) rfl, by decide, by decide +kernel, Or.inl (fw_in (fw_tb (i := 772) (by decide +kernel)) rfl)⟩
theorem ft_callV_7_197 : fw_L "FederationWireModel" 197 y_Mo_forget prog_9_method_19_code 3 none 1 := ⟨fw_in (fw_tb (i := 783) (by decide +kernel)) rfl, fw_in (fw_tb (i := 8) (by decide +kernel)) rfl, by decide, by decide +kernel, Or.inl (fw_in (fw_tb (i := 780) (by decide +kernel)) rfl)⟩
theorem ft_callV_7_206 : fw_L "FederationWireModel" 206 y_Mo_answer prog_9_method_20_code 7 none 4 := ⟨fw_in (fw_tb (i := 791) (by decide +kernel)) rfl, fw_in (fw_tb (i := 8) (by decide +kernel)) rfl, by decide, by decide +kernel, Or.inl (fw_in (fw_tb (i := 788) (by decide +kernel)) rfl)⟩
theorem ft_callV_7_203 : fw_L "FederationWireModel" 203 y_Mo_remember prog_9_method_21_code 7 none 2 := ⟨fw_in (fw_tb (i := 779) (by decide +kernel)) rfl, fw_in (fw_tb (i := 8) (by decide +kernel)) rfl, by decide, by decide +kernel, Or.inl (fw_in (fw_tb (i := 776) (by decide +kernel)) rfl)⟩
theorem ft_field_7_200 : fw_F "FederationWireModel" 200 7 42 .int false := ⟨_, _, _, cl_7, by decide, by decide +kernel, by decide, Or.inl (fw_in (fw_tb (i := 594) (by decide +kernel)) rfl)⟩
theorem ft_callS_7_210 : fw_L "FederationWireModel" 210 y_Mo_isLength prog_9_method_24_code 2 (some .boolean) 2 := ⟨fw_in (fw_tb (i := 763) (by decide +kernel)) rfl, fw_in (fw_tb (i := 8) (by decide +kernel)) rfl, by decide, by decide +kernel, Or.inl (fw_in (fw_tb (i := 761) (by decide +kernel)) rfl)⟩
theorem ft_callV_7_214 : fw_L "FederationWireModel" 214 y_Mo_fits prog_9_method_25_code 6 (some .boolean) 3 := ⟨fw_in (fw_tb (i := 760) (by decide +kernel)) rfl, fw_in (fw_tb (i := 8) (by decide +kernel)) rfl, by decide, by decide +kernel, Or.inl (fw_in (fw_tb (i := 757) (by decide +kernel)) rfl)⟩
theorem ft_callV_7_223 : fw_L "FederationWireModel" 223 y_Mo_isDropped prog_9_method_15_code 7 (some .boolean) 4 := ⟨fw_in (fw_tb (i := 795) (by decide +kernel)) rfl, fw_in (fw_tb (i := 8) (by decide +kernel)) rfl, by decide, by decide +kernel, Or.inl (fw_in (fw_tb (i := 792) (by decide +kernel)) rfl)⟩
theorem ft_field_7_227 : fw_F "FederationWireModel" 227 7 9 .int false := ⟨_, _, _, cl_7, by decide, by decide +kernel, by decide, Or.inl (fw_in (fw_tb (i := 561) (by decide +kernel)) rfl)⟩
theorem ft_callV_7_220 : fw_L "FederationWireModel" 220 y_Mo_isServed prog_9_method_22_code 7 (some .boolean) 3 := ⟨fw_in (fw_tb (i := 771) (by decide +kernel)) rfl, fw_in (fw_tb (i := 8) (by decide +kernel)) rfl, by decide, by decide +kernel, Or.inl (fw_in (fw_tb (i := 768) (by decide +kernel)) rfl)⟩
theorem ft_callV_7_217 : fw_L "FederationWireModel" 217 y_Mo_end prog_9_method_23_code 2 none 1 := ⟨fw_in (fw_tb (i := 767) (by decide +kernel)) rfl, fw_in (fw_tb (i := 8) (by decide +kernel)) rfl, by decide, by decide +kernel, Or.inl (fw_in (fw_tb (i := 764) (by decide +kernel)) rfl)⟩
theorem ft_callV_7_230 : fw_L "FederationWireModel" 230 y_Mo_come prog_9_method_26_code 8 (some .int) 2 := ⟨fw_in (fw_tb (i := 756) (by decide +kernel)) rfl, fw_in (fw_tb (i := 8) (by decide +kernel)) rfl, by decide, by decide +kernel, Or.inl (fw_in (fw_tb (i := 753) (by decide +kernel)) rfl)⟩
theorem ft_callV_7_234 : fw_L "FederationWireModel" 234 y_Mo_takeOut prog_9_method_28_code 4 (some .int) 1 := ⟨fw_in (fw_tb (i := 811) (by decide +kernel)) rfl, fw_in (fw_tb (i := 8) (by decide +kernel)) rfl, by decide, by decide +kernel, Or.inl (fw_in (fw_tb (i := 808) (by decide +kernel)) rfl)⟩
theorem ft_callV_7_237 : fw_L "FederationWireModel" 237 y_Mo_isFailedSilently prog_9_method_10_code 2 (some .boolean) 1 := ⟨fw_in (fw_tb (i := 839) (by decide +kernel)) rfl, fw_in (fw_tb (i := 8) (by decide +kernel)) rfl, by decide, by decide +kernel, Or.inl (fw_in (fw_tb (i := 836) (by decide +kernel)) rfl)⟩
theorem ft_callV_7_240 : fw_L "FederationWireModel" 240 y_Mo_joinedOnes prog_9_method_34_code 7 (some .int) 3 := ⟨fw_in (fw_tb (i := 835) (by decide +kernel)) rfl, fw_in (fw_tb (i := 8) (by decide +kernel)) rfl, by decide, by decide +kernel, Or.inl (fw_in (fw_tb (i := 832) (by decide +kernel)) rfl)⟩
end
