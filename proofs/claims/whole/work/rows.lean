section
-- ===== PART A: goes FIRST, ahead of the names: the tables' words, and 'selects' of the private methods out of them =====
/-- a private method of a class that the tables say can be made, by its rows of tables_1 -/
def lw_okq (q : MethodName × Nat) : Prop := (q.1.cls ≠ "java/lang/invoke/MethodHandle" ∧ q.1.cls ≠ "java/lang/invoke/VarHandle") ∧ Cond.instantiable q.1.cls q.2 ∈ tables_1 ∧ Cond.privateMethod q.1 ∈ tables_1 ∧ Cond.instanceMethod q.1 ∈ tables_1
theorem lw_p0 : lw_okq (⟨"SeenFromBehind", "refuse", "(I)I"⟩, 10) := ⟨⟨by decide +kernel, by decide +kernel⟩, List.mem_of_getElem? (i := 9) (by decide +kernel), List.mem_of_getElem? (i := 126) (by decide +kernel), List.mem_of_getElem? (i := 127) (by decide +kernel)⟩
theorem lw_p1 : lw_okq (⟨"SeenFromBehind$Text", "append", "(I)I"⟩, 2) := ⟨⟨by decide +kernel, by decide +kernel⟩, List.mem_of_getElem? (i := 77) (by decide +kernel), List.mem_of_getElem? (i := 136) (by decide +kernel), List.mem_of_getElem? (i := 137) (by decide +kernel)⟩
theorem lw_p2 : lw_okq (⟨"SeenFromBehind$Text", "wrongPlace", "()I"⟩, 2) := ⟨⟨by decide +kernel, by decide +kernel⟩, List.mem_of_getElem? (i := 77) (by decide +kernel), List.mem_of_getElem? (i := 145) (by decide +kernel), List.mem_of_getElem? (i := 146) (by decide +kernel)⟩
theorem lw_p3 : lw_okq (⟨"SeenFromBehind$Hill", "become", "(LSeenFromBehind$Hill;)V"⟩, 9) := ⟨⟨by decide +kernel, by decide +kernel⟩, List.mem_of_getElem? (i := 17) (by decide +kernel), List.mem_of_getElem? (i := 153) (by decide +kernel), List.mem_of_getElem? (i := 154) (by decide +kernel)⟩
theorem lw_p4 : lw_okq (⟨"SeenFromBehind$Text", "beginsStatement", "(I)Z"⟩, 2) := ⟨⟨by decide +kernel, by decide +kernel⟩, List.mem_of_getElem? (i := 77) (by decide +kernel), List.mem_of_getElem? (i := 159) (by decide +kernel), List.mem_of_getElem? (i := 160) (by decide +kernel)⟩
theorem lw_p5 : lw_okq (⟨"SeenFromBehind$Text", "comesTo", "(LSeenFromBehind$Hill;I)Z"⟩, 2) := ⟨⟨by decide +kernel, by decide +kernel⟩, List.mem_of_getElem? (i := 77) (by decide +kernel), List.mem_of_getElem? (i := 163) (by decide +kernel), List.mem_of_getElem? (i := 164) (by decide +kernel)⟩
theorem lw_p6 : lw_okq (⟨"SeenFromBehind$Text", "digit", "(I)I"⟩, 2) := ⟨⟨by decide +kernel, by decide +kernel⟩, List.mem_of_getElem? (i := 77) (by decide +kernel), List.mem_of_getElem? (i := 167) (by decide +kernel), List.mem_of_getElem? (i := 168) (by decide +kernel)⟩
theorem lw_p7 : lw_okq (⟨"SeenFromBehind$Text", "number", "(I)I"⟩, 2) := ⟨⟨by decide +kernel, by decide +kernel⟩, List.mem_of_getElem? (i := 77) (by decide +kernel), List.mem_of_getElem? (i := 171) (by decide +kernel), List.mem_of_getElem? (i := 172) (by decide +kernel)⟩
theorem lw_p8 : lw_okq (⟨"SeenFromBehind$Hill", "isFree", "(I)Z"⟩, 9) := ⟨⟨by decide +kernel, by decide +kernel⟩, List.mem_of_getElem? (i := 17) (by decide +kernel), List.mem_of_getElem? (i := 187) (by decide +kernel), List.mem_of_getElem? (i := 188) (by decide +kernel)⟩
theorem lw_p9 : lw_okq (⟨"SeenFromBehind$Hill", "whoIsAt", "(I)I"⟩, 9) := ⟨⟨by decide +kernel, by decide +kernel⟩, List.mem_of_getElem? (i := 17) (by decide +kernel), List.mem_of_getElem? (i := 191) (by decide +kernel), List.mem_of_getElem? (i := 192) (by decide +kernel)⟩
theorem lw_p10 : lw_okq (⟨"SeenFromBehind$Hill", "join", "(IIII)I"⟩, 9) := ⟨⟨by decide +kernel, by decide +kernel⟩, List.mem_of_getElem? (i := 17) (by decide +kernel), List.mem_of_getElem? (i := 195) (by decide +kernel), List.mem_of_getElem? (i := 196) (by decide +kernel)⟩
theorem lw_p11 : lw_okq (⟨"SeenFromBehind$Hill", "has", "(I)Z"⟩, 9) := ⟨⟨by decide +kernel, by decide +kernel⟩, List.mem_of_getElem? (i := 17) (by decide +kernel), List.mem_of_getElem? (i := 202) (by decide +kernel), List.mem_of_getElem? (i := 203) (by decide +kernel)⟩
theorem lw_p12 : lw_okq (⟨"SeenFromBehind$Hill", "face", "(II)V"⟩, 9) := ⟨⟨by decide +kernel, by decide +kernel⟩, List.mem_of_getElem? (i := 17) (by decide +kernel), List.mem_of_getElem? (i := 206) (by decide +kernel), List.mem_of_getElem? (i := 207) (by decide +kernel)⟩
theorem lw_p13 : lw_okq (⟨"SeenFromBehind$Hill", "place", "(II)V"⟩, 9) := ⟨⟨by decide +kernel, by decide +kernel⟩, List.mem_of_getElem? (i := 17) (by decide +kernel), List.mem_of_getElem? (i := 213) (by decide +kernel), List.mem_of_getElem? (i := 214) (by decide +kernel)⟩
theorem lw_p14 : lw_okq (⟨"SeenFromBehind$Hill", "hasRoomFor", "(I)Z"⟩, 9) := ⟨⟨by decide +kernel, by decide +kernel⟩, List.mem_of_getElem? (i := 17) (by decide +kernel), List.mem_of_getElem? (i := 217) (by decide +kernel), List.mem_of_getElem? (i := 218) (by decide +kernel)⟩
theorem lw_p15 : lw_okq (⟨"SeenFromBehind$Hill", "pass", "(I)V"⟩, 9) := ⟨⟨by decide +kernel, by decide +kernel⟩, List.mem_of_getElem? (i := 17) (by decide +kernel), List.mem_of_getElem? (i := 221) (by decide +kernel), List.mem_of_getElem? (i := 222) (by decide +kernel)⟩
def lw_privs_1 : List (MethodName × Nat) := [(⟨"SeenFromBehind", "refuse", "(I)I"⟩, 10), (⟨"SeenFromBehind$Text", "append", "(I)I"⟩, 2), (⟨"SeenFromBehind$Text", "wrongPlace", "()I"⟩, 2), (⟨"SeenFromBehind$Hill", "become", "(LSeenFromBehind$Hill;)V"⟩, 9), (⟨"SeenFromBehind$Text", "beginsStatement", "(I)Z"⟩, 2), (⟨"SeenFromBehind$Text", "comesTo", "(LSeenFromBehind$Hill;I)Z"⟩, 2), (⟨"SeenFromBehind$Text", "digit", "(I)I"⟩, 2), (⟨"SeenFromBehind$Text", "number", "(I)I"⟩, 2), (⟨"SeenFromBehind$Hill", "isFree", "(I)Z"⟩, 9), (⟨"SeenFromBehind$Hill", "whoIsAt", "(I)I"⟩, 9), (⟨"SeenFromBehind$Hill", "join", "(IIII)I"⟩, 9), (⟨"SeenFromBehind$Hill", "has", "(I)Z"⟩, 9), (⟨"SeenFromBehind$Hill", "face", "(II)V"⟩, 9), (⟨"SeenFromBehind$Hill", "place", "(II)V"⟩, 9), (⟨"SeenFromBehind$Hill", "hasRoomFor", "(I)Z"⟩, 9), (⟨"SeenFromBehind$Hill", "pass", "(I)V"⟩, 9)]
theorem lw_r1 : ∀ q ∈ lw_privs_1, lw_okq q := List.forall_mem_cons.mpr ⟨lw_p0, List.forall_mem_cons.mpr ⟨lw_p1, List.forall_mem_cons.mpr ⟨lw_p2, List.forall_mem_cons.mpr ⟨lw_p3, List.forall_mem_cons.mpr ⟨lw_p4, List.forall_mem_cons.mpr ⟨lw_p5, List.forall_mem_cons.mpr ⟨lw_p6, List.forall_mem_cons.mpr ⟨lw_p7, List.forall_mem_cons.mpr ⟨lw_p8, List.forall_mem_cons.mpr ⟨lw_p9, List.forall_mem_cons.mpr ⟨lw_p10, List.forall_mem_cons.mpr ⟨lw_p11, List.forall_mem_cons.mpr ⟨lw_p12, List.forall_mem_cons.mpr ⟨lw_p13, List.forall_mem_cons.mpr ⟨lw_p14, List.forall_mem_cons.mpr ⟨lw_p15, fun _ h => absurd h List.not_mem_nil⟩⟩⟩⟩⟩⟩⟩⟩⟩⟩⟩⟩⟩⟩⟩⟩
theorem lw_p16 : lw_okq (⟨"SeenFromBehind$Hill", "nightWithout", "(I)V"⟩, 9) := ⟨⟨by decide +kernel, by decide +kernel⟩, List.mem_of_getElem? (i := 17) (by decide +kernel), List.mem_of_getElem? (i := 225) (by decide +kernel), List.mem_of_getElem? (i := 226) (by decide +kernel)⟩
theorem lw_p17 : lw_okq (⟨"SeenFromBehind$Hill", "inLens", "(I)I"⟩, 9) := ⟨⟨by decide +kernel, by decide +kernel⟩, List.mem_of_getElem? (i := 17) (by decide +kernel), List.mem_of_getElem? (i := 229) (by decide +kernel), List.mem_of_getElem? (i := 230) (by decide +kernel)⟩
theorem lw_p18 : lw_okq (⟨"SeenFromBehind$Hill", "depthOf", "(I)I"⟩, 9) := ⟨⟨by decide +kernel, by decide +kernel⟩, List.mem_of_getElem? (i := 17) (by decide +kernel), List.mem_of_getElem? (i := 236) (by decide +kernel), List.mem_of_getElem? (i := 237) (by decide +kernel)⟩
theorem lw_p19 : lw_okq (⟨"SeenFromBehind$Hill", "nextTo", "(III)I"⟩, 9) := ⟨⟨by decide +kernel, by decide +kernel⟩, List.mem_of_getElem? (i := 17) (by decide +kernel), List.mem_of_getElem? (i := 243) (by decide +kernel), List.mem_of_getElem? (i := 244) (by decide +kernel)⟩
theorem lw_p20 : lw_okq (⟨"SeenFromBehind$Hill", "stirs", "(II)Z"⟩, 9) := ⟨⟨by decide +kernel, by decide +kernel⟩, List.mem_of_getElem? (i := 17) (by decide +kernel), List.mem_of_getElem? (i := 256) (by decide +kernel), List.mem_of_getElem? (i := 257) (by decide +kernel)⟩
theorem lw_p21 : lw_okq (⟨"SeenFromBehind$Hill", "ahead", "(I)I"⟩, 9) := ⟨⟨by decide +kernel, by decide +kernel⟩, List.mem_of_getElem? (i := 17) (by decide +kernel), List.mem_of_getElem? (i := 260) (by decide +kernel), List.mem_of_getElem? (i := 261) (by decide +kernel)⟩
theorem lw_p22 : lw_okq (⟨"SeenFromBehind$Hill", "reachOf", "(I)I"⟩, 9) := ⟨⟨by decide +kernel, by decide +kernel⟩, List.mem_of_getElem? (i := 17) (by decide +kernel), List.mem_of_getElem? (i := 264) (by decide +kernel), List.mem_of_getElem? (i := 265) (by decide +kernel)⟩
theorem lw_p23 : lw_okq (⟨"SeenFromBehind$Hill", "turnsBy", "(II)Z"⟩, 9) := ⟨⟨by decide +kernel, by decide +kernel⟩, List.mem_of_getElem? (i := 17) (by decide +kernel), List.mem_of_getElem? (i := 271) (by decide +kernel), List.mem_of_getElem? (i := 272) (by decide +kernel)⟩
theorem lw_p24 : lw_okq (⟨"SeenFromBehind$Hill", "stepsTo", "(II)Z"⟩, 9) := ⟨⟨by decide +kernel, by decide +kernel⟩, List.mem_of_getElem? (i := 17) (by decide +kernel), List.mem_of_getElem? (i := 275) (by decide +kernel), List.mem_of_getElem? (i := 276) (by decide +kernel)⟩
theorem lw_p25 : lw_okq (⟨"SeenFromBehind$Text", "forget", "()V"⟩, 2) := ⟨⟨by decide +kernel, by decide +kernel⟩, List.mem_of_getElem? (i := 77) (by decide +kernel), List.mem_of_getElem? (i := 280) (by decide +kernel), List.mem_of_getElem? (i := 281) (by decide +kernel)⟩
theorem lw_p26 : lw_okq (⟨"SeenFromBehind$Past", "forget", "()V"⟩, 3) := ⟨⟨by decide +kernel, by decide +kernel⟩, List.mem_of_getElem? (i := 58) (by decide +kernel), List.mem_of_getElem? (i := 284) (by decide +kernel), List.mem_of_getElem? (i := 285) (by decide +kernel)⟩
theorem lw_p27 : lw_okq (⟨"SeenFromBehind$Hill", "kindOf", "(I)I"⟩, 9) := ⟨⟨by decide +kernel, by decide +kernel⟩, List.mem_of_getElem? (i := 17) (by decide +kernel), List.mem_of_getElem? (i := 293) (by decide +kernel), List.mem_of_getElem? (i := 294) (by decide +kernel)⟩
theorem lw_p28 : lw_okq (⟨"SeenFromBehind$Hill", "figureOf", "(I)I"⟩, 9) := ⟨⟨by decide +kernel, by decide +kernel⟩, List.mem_of_getElem? (i := 17) (by decide +kernel), List.mem_of_getElem? (i := 297) (by decide +kernel), List.mem_of_getElem? (i := 298) (by decide +kernel)⟩
theorem lw_p29 : lw_okq (⟨"SeenFromBehind$Hill", "cellOf", "(I)I"⟩, 9) := ⟨⟨by decide +kernel, by decide +kernel⟩, List.mem_of_getElem? (i := 17) (by decide +kernel), List.mem_of_getElem? (i := 301) (by decide +kernel), List.mem_of_getElem? (i := 302) (by decide +kernel)⟩
theorem lw_p30 : lw_okq (⟨"SeenFromBehind$Hill", "facesOf", "(I)I"⟩, 9) := ⟨⟨by decide +kernel, by decide +kernel⟩, List.mem_of_getElem? (i := 17) (by decide +kernel), List.mem_of_getElem? (i := 305) (by decide +kernel), List.mem_of_getElem? (i := 306) (by decide +kernel)⟩
theorem lw_p31 : lw_okq (⟨"SeenFromBehind$Hill", "startsOf", "(I)I"⟩, 9) := ⟨⟨by decide +kernel, by decide +kernel⟩, List.mem_of_getElem? (i := 17) (by decide +kernel), List.mem_of_getElem? (i := 309) (by decide +kernel), List.mem_of_getElem? (i := 310) (by decide +kernel)⟩
def lw_privs_2 : List (MethodName × Nat) := [(⟨"SeenFromBehind$Hill", "nightWithout", "(I)V"⟩, 9), (⟨"SeenFromBehind$Hill", "inLens", "(I)I"⟩, 9), (⟨"SeenFromBehind$Hill", "depthOf", "(I)I"⟩, 9), (⟨"SeenFromBehind$Hill", "nextTo", "(III)I"⟩, 9), (⟨"SeenFromBehind$Hill", "stirs", "(II)Z"⟩, 9), (⟨"SeenFromBehind$Hill", "ahead", "(I)I"⟩, 9), (⟨"SeenFromBehind$Hill", "reachOf", "(I)I"⟩, 9), (⟨"SeenFromBehind$Hill", "turnsBy", "(II)Z"⟩, 9), (⟨"SeenFromBehind$Hill", "stepsTo", "(II)Z"⟩, 9), (⟨"SeenFromBehind$Text", "forget", "()V"⟩, 2), (⟨"SeenFromBehind$Past", "forget", "()V"⟩, 3), (⟨"SeenFromBehind$Hill", "kindOf", "(I)I"⟩, 9), (⟨"SeenFromBehind$Hill", "figureOf", "(I)I"⟩, 9), (⟨"SeenFromBehind$Hill", "cellOf", "(I)I"⟩, 9), (⟨"SeenFromBehind$Hill", "facesOf", "(I)I"⟩, 9), (⟨"SeenFromBehind$Hill", "startsOf", "(I)I"⟩, 9)]
theorem lw_r2 : ∀ q ∈ lw_privs_2, lw_okq q := List.forall_mem_cons.mpr ⟨lw_p16, List.forall_mem_cons.mpr ⟨lw_p17, List.forall_mem_cons.mpr ⟨lw_p18, List.forall_mem_cons.mpr ⟨lw_p19, List.forall_mem_cons.mpr ⟨lw_p20, List.forall_mem_cons.mpr ⟨lw_p21, List.forall_mem_cons.mpr ⟨lw_p22, List.forall_mem_cons.mpr ⟨lw_p23, List.forall_mem_cons.mpr ⟨lw_p24, List.forall_mem_cons.mpr ⟨lw_p25, List.forall_mem_cons.mpr ⟨lw_p26, List.forall_mem_cons.mpr ⟨lw_p27, List.forall_mem_cons.mpr ⟨lw_p28, List.forall_mem_cons.mpr ⟨lw_p29, List.forall_mem_cons.mpr ⟨lw_p30, List.forall_mem_cons.mpr ⟨lw_p31, fun _ h => absurd h List.not_mem_nil⟩⟩⟩⟩⟩⟩⟩⟩⟩⟩⟩⟩⟩⟩⟩⟩
theorem lw_p32 : lw_okq (⟨"SeenFromBehind$Past", "keep", "(LSeenFromBehind$Hill;)V"⟩, 3) := ⟨⟨by decide +kernel, by decide +kernel⟩, List.mem_of_getElem? (i := 58) (by decide +kernel), List.mem_of_getElem? (i := 328) (by decide +kernel), List.mem_of_getElem? (i := 329) (by decide +kernel)⟩
theorem lw_p33 : lw_okq (⟨"SeenFromBehind$Past", "placeAt", "(I)LSeenFromBehind$Hill;"⟩, 3) := ⟨⟨by decide +kernel, by decide +kernel⟩, List.mem_of_getElem? (i := 58) (by decide +kernel), List.mem_of_getElem? (i := 332) (by decide +kernel), List.mem_of_getElem? (i := 333) (by decide +kernel)⟩
theorem lw_p34 : lw_okq (⟨"SeenFromBehind$Hill", "startsTogether", "()I"⟩, 9) := ⟨⟨by decide +kernel, by decide +kernel⟩, List.mem_of_getElem? (i := 17) (by decide +kernel), List.mem_of_getElem? (i := 350) (by decide +kernel), List.mem_of_getElem? (i := 351) (by decide +kernel)⟩
theorem lw_p35 : lw_okq (⟨"SeenFromBehind$Past", "giveBack", "()LSeenFromBehind$Hill;"⟩, 3) := ⟨⟨by decide +kernel, by decide +kernel⟩, List.mem_of_getElem? (i := 58) (by decide +kernel), List.mem_of_getElem? (i := 358) (by decide +kernel), List.mem_of_getElem? (i := 359) (by decide +kernel)⟩
theorem lw_p36 : lw_okq (⟨"SeenFromBehind", "wrongNights", "(II)I"⟩, 10) := ⟨⟨by decide +kernel, by decide +kernel⟩, List.mem_of_getElem? (i := 9) (by decide +kernel), List.mem_of_getElem? (i := 366) (by decide +kernel), List.mem_of_getElem? (i := 367) (by decide +kernel)⟩
theorem lw_p37 : lw_okq (⟨"SeenFromBehind", "lookAhead", "(I)V"⟩, 10) := ⟨⟨by decide +kernel, by decide +kernel⟩, List.mem_of_getElem? (i := 9) (by decide +kernel), List.mem_of_getElem? (i := 370) (by decide +kernel), List.mem_of_getElem? (i := 371) (by decide +kernel)⟩
theorem lw_p38 : lw_okq (⟨"SeenFromBehind$Hill", "watchers", "(I)I"⟩, 9) := ⟨⟨by decide +kernel, by decide +kernel⟩, List.mem_of_getElem? (i := 17) (by decide +kernel), List.mem_of_getElem? (i := 377) (by decide +kernel), List.mem_of_getElem? (i := 378) (by decide +kernel)⟩
theorem lw_p39 : lw_okq (⟨"SeenFromBehind", "wrongWhat", "(III)I"⟩, 10) := ⟨⟨by decide +kernel, by decide +kernel⟩, List.mem_of_getElem? (i := 9) (by decide +kernel), List.mem_of_getElem? (i := 389) (by decide +kernel), List.mem_of_getElem? (i := 390) (by decide +kernel)⟩
theorem lw_p40 : lw_okq (⟨"SeenFromBehind$Hill", "everybody", "()I"⟩, 9) := ⟨⟨by decide +kernel, by decide +kernel⟩, List.mem_of_getElem? (i := 17) (by decide +kernel), List.mem_of_getElem? (i := 402) (by decide +kernel), List.mem_of_getElem? (i := 403) (by decide +kernel)⟩
theorem lw_p41 : lw_okq (⟨"SeenFromBehind$Hill", "chainOf", "(II)I"⟩, 9) := ⟨⟨by decide +kernel, by decide +kernel⟩, List.mem_of_getElem? (i := 17) (by decide +kernel), List.mem_of_getElem? (i := 410) (by decide +kernel), List.mem_of_getElem? (i := 411) (by decide +kernel)⟩
theorem lw_p42 : lw_okq (⟨"SeenFromBehind$Hill", "seenBy", "(I)I"⟩, 9) := ⟨⟨by decide +kernel, by decide +kernel⟩, List.mem_of_getElem? (i := 17) (by decide +kernel), List.mem_of_getElem? (i := 422) (by decide +kernel), List.mem_of_getElem? (i := 423) (by decide +kernel)⟩
theorem lw_p43 : lw_okq (⟨"SeenFromBehind$Hill", "seesAllWays", "(I)Z"⟩, 9) := ⟨⟨by decide +kernel, by decide +kernel⟩, List.mem_of_getElem? (i := 17) (by decide +kernel), List.mem_of_getElem? (i := 438) (by decide +kernel), List.mem_of_getElem? (i := 439) (by decide +kernel)⟩
theorem lw_p44 : lw_okq (⟨"SeenFromBehind$Hill", "facesToSeeUnseen", "(I)I"⟩, 9) := ⟨⟨by decide +kernel, by decide +kernel⟩, List.mem_of_getElem? (i := 17) (by decide +kernel), List.mem_of_getElem? (i := 446) (by decide +kernel), List.mem_of_getElem? (i := 447) (by decide +kernel)⟩
theorem lw_p45 : lw_okq (⟨"SeenFromBehind$Hill", "beOfKind", "(II)V"⟩, 9) := ⟨⟨by decide +kernel, by decide +kernel⟩, List.mem_of_getElem? (i := 17) (by decide +kernel), List.mem_of_getElem? (i := 454) (by decide +kernel), List.mem_of_getElem? (i := 455) (by decide +kernel)⟩
theorem lw_p46 : lw_okq (⟨"SeenFromBehind$Hill", "beOfFigure", "(II)V"⟩, 9) := ⟨⟨by decide +kernel, by decide +kernel⟩, List.mem_of_getElem? (i := 17) (by decide +kernel), List.mem_of_getElem? (i := 458) (by decide +kernel), List.mem_of_getElem? (i := 459) (by decide +kernel)⟩
theorem lw_p47 : lw_okq (⟨"SeenFromBehind", "turnsAsTold", "(I)Z"⟩, 10) := ⟨⟨by decide +kernel, by decide +kernel⟩, List.mem_of_getElem? (i := 9) (by decide +kernel), List.mem_of_getElem? (i := 462) (by decide +kernel), List.mem_of_getElem? (i := 463) (by decide +kernel)⟩
def lw_privs_3 : List (MethodName × Nat) := [(⟨"SeenFromBehind$Past", "keep", "(LSeenFromBehind$Hill;)V"⟩, 3), (⟨"SeenFromBehind$Past", "placeAt", "(I)LSeenFromBehind$Hill;"⟩, 3), (⟨"SeenFromBehind$Hill", "startsTogether", "()I"⟩, 9), (⟨"SeenFromBehind$Past", "giveBack", "()LSeenFromBehind$Hill;"⟩, 3), (⟨"SeenFromBehind", "wrongNights", "(II)I"⟩, 10), (⟨"SeenFromBehind", "lookAhead", "(I)V"⟩, 10), (⟨"SeenFromBehind$Hill", "watchers", "(I)I"⟩, 9), (⟨"SeenFromBehind", "wrongWhat", "(III)I"⟩, 10), (⟨"SeenFromBehind$Hill", "everybody", "()I"⟩, 9), (⟨"SeenFromBehind$Hill", "chainOf", "(II)I"⟩, 9), (⟨"SeenFromBehind$Hill", "seenBy", "(I)I"⟩, 9), (⟨"SeenFromBehind$Hill", "seesAllWays", "(I)Z"⟩, 9), (⟨"SeenFromBehind$Hill", "facesToSeeUnseen", "(I)I"⟩, 9), (⟨"SeenFromBehind$Hill", "beOfKind", "(II)V"⟩, 9), (⟨"SeenFromBehind$Hill", "beOfFigure", "(II)V"⟩, 9), (⟨"SeenFromBehind", "turnsAsTold", "(I)Z"⟩, 10)]
theorem lw_r3 : ∀ q ∈ lw_privs_3, lw_okq q := List.forall_mem_cons.mpr ⟨lw_p32, List.forall_mem_cons.mpr ⟨lw_p33, List.forall_mem_cons.mpr ⟨lw_p34, List.forall_mem_cons.mpr ⟨lw_p35, List.forall_mem_cons.mpr ⟨lw_p36, List.forall_mem_cons.mpr ⟨lw_p37, List.forall_mem_cons.mpr ⟨lw_p38, List.forall_mem_cons.mpr ⟨lw_p39, List.forall_mem_cons.mpr ⟨lw_p40, List.forall_mem_cons.mpr ⟨lw_p41, List.forall_mem_cons.mpr ⟨lw_p42, List.forall_mem_cons.mpr ⟨lw_p43, List.forall_mem_cons.mpr ⟨lw_p44, List.forall_mem_cons.mpr ⟨lw_p45, List.forall_mem_cons.mpr ⟨lw_p46, List.forall_mem_cons.mpr ⟨lw_p47, fun _ h => absurd h List.not_mem_nil⟩⟩⟩⟩⟩⟩⟩⟩⟩⟩⟩⟩⟩⟩⟩⟩
theorem lw_p48 : lw_okq (⟨"SeenFromBehind$Hill", "cellOfStep", "(II)I"⟩, 9) := ⟨⟨by decide +kernel, by decide +kernel⟩, List.mem_of_getElem? (i := 17) (by decide +kernel), List.mem_of_getElem? (i := 470) (by decide +kernel), List.mem_of_getElem? (i := 471) (by decide +kernel)⟩
theorem lw_p49 : lw_okq (⟨"SeenFromBehind", "areTwo", "(II)Z"⟩, 10) := ⟨⟨by decide +kernel, by decide +kernel⟩, List.mem_of_getElem? (i := 9) (by decide +kernel), List.mem_of_getElem? (i := 484) (by decide +kernel), List.mem_of_getElem? (i := 485) (by decide +kernel)⟩
theorem lw_p50 : lw_okq (⟨"SeenFromBehind", "stepsSeenByFaces", "(II)I"⟩, 10) := ⟨⟨by decide +kernel, by decide +kernel⟩, List.mem_of_getElem? (i := 9) (by decide +kernel), List.mem_of_getElem? (i := 488) (by decide +kernel), List.mem_of_getElem? (i := 489) (by decide +kernel)⟩
theorem lw_p51 : lw_okq (⟨"SeenFromBehind$Hill", "cellsApart", "(II)I"⟩, 9) := ⟨⟨by decide +kernel, by decide +kernel⟩, List.mem_of_getElem? (i := 17) (by decide +kernel), List.mem_of_getElem? (i := 521) (by decide +kernel), List.mem_of_getElem? (i := 522) (by decide +kernel)⟩
theorem lw_p52 : lw_okq (⟨"SeenFromBehind$Hill", "howManySee", "(Z)I"⟩, 9) := ⟨⟨by decide +kernel, by decide +kernel⟩, List.mem_of_getElem? (i := 17) (by decide +kernel), List.mem_of_getElem? (i := 594) (by decide +kernel), List.mem_of_getElem? (i := 595) (by decide +kernel)⟩
theorem lw_p53 : lw_okq (⟨"SeenFromBehindModel", "refuse", "(I)I"⟩, 35) := ⟨⟨by decide +kernel, by decide +kernel⟩, List.mem_of_getElem? (i := 610) (by decide +kernel), List.mem_of_getElem? (i := 726) (by decide +kernel), List.mem_of_getElem? (i := 727) (by decide +kernel)⟩
theorem lw_p54 : lw_okq (⟨"SeenFromBehindModel", "readStatement", "()V"⟩, 35) := ⟨⟨by decide +kernel, by decide +kernel⟩, List.mem_of_getElem? (i := 610) (by decide +kernel), List.mem_of_getElem? (i := 734) (by decide +kernel), List.mem_of_getElem? (i := 735) (by decide +kernel)⟩
theorem lw_p55 : lw_okq (⟨"SeenFromBehindModel", "here", "()I"⟩, 35) := ⟨⟨by decide +kernel, by decide +kernel⟩, List.mem_of_getElem? (i := 610) (by decide +kernel), List.mem_of_getElem? (i := 738) (by decide +kernel), List.mem_of_getElem? (i := 739) (by decide +kernel)⟩
theorem lw_p56 : lw_okq (⟨"SeenFromBehindModel", "readNumbers", "(II)V"⟩, 35) := ⟨⟨by decide +kernel, by decide +kernel⟩, List.mem_of_getElem? (i := 610) (by decide +kernel), List.mem_of_getElem? (i := 745) (by decide +kernel), List.mem_of_getElem? (i := 746) (by decide +kernel)⟩
theorem lw_p57 : lw_okq (⟨"SeenFromBehindModel", "readDigits", "(I)I"⟩, 35) := ⟨⟨by decide +kernel, by decide +kernel⟩, List.mem_of_getElem? (i := 610) (by decide +kernel), List.mem_of_getElem? (i := 749) (by decide +kernel), List.mem_of_getElem? (i := 750) (by decide +kernel)⟩
theorem lw_p58 : lw_okq (⟨"SeenFromBehindModel", "think", "()V"⟩, 35) := ⟨⟨by decide +kernel, by decide +kernel⟩, List.mem_of_getElem? (i := 610) (by decide +kernel), List.mem_of_getElem? (i := 758) (by decide +kernel), List.mem_of_getElem? (i := 759) (by decide +kernel)⟩
theorem lw_p59 : lw_okq (⟨"SeenFromBehindModel", "carryAll", "([IZ)V"⟩, 35) := ⟨⟨by decide +kernel, by decide +kernel⟩, List.mem_of_getElem? (i := 610) (by decide +kernel), List.mem_of_getElem? (i := 762) (by decide +kernel), List.mem_of_getElem? (i := 763) (by decide +kernel)⟩
theorem lw_p60 : lw_okq (⟨"SeenFromBehindModel", "carry", "(I)I"⟩, 35) := ⟨⟨by decide +kernel, by decide +kernel⟩, List.mem_of_getElem? (i := 610) (by decide +kernel), List.mem_of_getElem? (i := 766) (by decide +kernel), List.mem_of_getElem? (i := 767) (by decide +kernel)⟩
theorem lw_p61 : lw_okq (⟨"SeenFromBehindModel", "comesTold", "(I)Z"⟩, 35) := ⟨⟨by decide +kernel, by decide +kernel⟩, List.mem_of_getElem? (i := 610) (by decide +kernel), List.mem_of_getElem? (i := 770) (by decide +kernel), List.mem_of_getElem? (i := 771) (by decide +kernel)⟩
theorem lw_p62 : lw_okq (⟨"SeenFromBehindModel", "oneIn", "(I)I"⟩, 35) := ⟨⟨by decide +kernel, by decide +kernel⟩, List.mem_of_getElem? (i := 610) (by decide +kernel), List.mem_of_getElem? (i := 774) (by decide +kernel), List.mem_of_getElem? (i := 775) (by decide +kernel)⟩
theorem lw_p63 : lw_okq (⟨"SeenFromBehindModel", "oneComes", "(IIII)V"⟩, 35) := ⟨⟨by decide +kernel, by decide +kernel⟩, List.mem_of_getElem? (i := 610) (by decide +kernel), List.mem_of_getElem? (i := 778) (by decide +kernel), List.mem_of_getElem? (i := 779) (by decide +kernel)⟩
def lw_privs_4 : List (MethodName × Nat) := [(⟨"SeenFromBehind$Hill", "cellOfStep", "(II)I"⟩, 9), (⟨"SeenFromBehind", "areTwo", "(II)Z"⟩, 10), (⟨"SeenFromBehind", "stepsSeenByFaces", "(II)I"⟩, 10), (⟨"SeenFromBehind$Hill", "cellsApart", "(II)I"⟩, 9), (⟨"SeenFromBehind$Hill", "howManySee", "(Z)I"⟩, 9), (⟨"SeenFromBehindModel", "refuse", "(I)I"⟩, 35), (⟨"SeenFromBehindModel", "readStatement", "()V"⟩, 35), (⟨"SeenFromBehindModel", "here", "()I"⟩, 35), (⟨"SeenFromBehindModel", "readNumbers", "(II)V"⟩, 35), (⟨"SeenFromBehindModel", "readDigits", "(I)I"⟩, 35), (⟨"SeenFromBehindModel", "think", "()V"⟩, 35), (⟨"SeenFromBehindModel", "carryAll", "([IZ)V"⟩, 35), (⟨"SeenFromBehindModel", "carry", "(I)I"⟩, 35), (⟨"SeenFromBehindModel", "comesTold", "(I)Z"⟩, 35), (⟨"SeenFromBehindModel", "oneIn", "(I)I"⟩, 35), (⟨"SeenFromBehindModel", "oneComes", "(IIII)V"⟩, 35)]
theorem lw_r4 : ∀ q ∈ lw_privs_4, lw_okq q := List.forall_mem_cons.mpr ⟨lw_p48, List.forall_mem_cons.mpr ⟨lw_p49, List.forall_mem_cons.mpr ⟨lw_p50, List.forall_mem_cons.mpr ⟨lw_p51, List.forall_mem_cons.mpr ⟨lw_p52, List.forall_mem_cons.mpr ⟨lw_p53, List.forall_mem_cons.mpr ⟨lw_p54, List.forall_mem_cons.mpr ⟨lw_p55, List.forall_mem_cons.mpr ⟨lw_p56, List.forall_mem_cons.mpr ⟨lw_p57, List.forall_mem_cons.mpr ⟨lw_p58, List.forall_mem_cons.mpr ⟨lw_p59, List.forall_mem_cons.mpr ⟨lw_p60, List.forall_mem_cons.mpr ⟨lw_p61, List.forall_mem_cons.mpr ⟨lw_p62, List.forall_mem_cons.mpr ⟨lw_p63, fun _ h => absurd h List.not_mem_nil⟩⟩⟩⟩⟩⟩⟩⟩⟩⟩⟩⟩⟩⟩⟩⟩
theorem lw_p64 : lw_okq (⟨"SeenFromBehindModel", "isOne", "(I)Z"⟩, 35) := ⟨⟨by decide +kernel, by decide +kernel⟩, List.mem_of_getElem? (i := 610) (by decide +kernel), List.mem_of_getElem? (i := 782) (by decide +kernel), List.mem_of_getElem? (i := 783) (by decide +kernel)⟩
theorem lw_p65 : lw_okq (⟨"SeenFromBehindModel", "goNights", "(I)V"⟩, 35) := ⟨⟨by decide +kernel, by decide +kernel⟩, List.mem_of_getElem? (i := 610) (by decide +kernel), List.mem_of_getElem? (i := 787) (by decide +kernel), List.mem_of_getElem? (i := 788) (by decide +kernel)⟩
theorem lw_p66 : lw_okq (⟨"SeenFromBehindModel", "nightBy", "(I)V"⟩, 35) := ⟨⟨by decide +kernel, by decide +kernel⟩, List.mem_of_getElem? (i := 610) (by decide +kernel), List.mem_of_getElem? (i := 791) (by decide +kernel), List.mem_of_getElem? (i := 792) (by decide +kernel)⟩
theorem lw_p67 : lw_okq (⟨"SeenFromBehindModel", "lensOf", "(I)I"⟩, 35) := ⟨⟨by decide +kernel, by decide +kernel⟩, List.mem_of_getElem? (i := 610) (by decide +kernel), List.mem_of_getElem? (i := 795) (by decide +kernel), List.mem_of_getElem? (i := 796) (by decide +kernel)⟩
theorem lw_p68 : lw_okq (⟨"SeenFromBehindModel", "depthOf", "(I)I"⟩, 35) := ⟨⟨by decide +kernel, by decide +kernel⟩, List.mem_of_getElem? (i := 610) (by decide +kernel), List.mem_of_getElem? (i := 799) (by decide +kernel), List.mem_of_getElem? (i := 800) (by decide +kernel)⟩
theorem lw_p69 : lw_okq (⟨"SeenFromBehindModel", "nextFrom", "(III)I"⟩, 35) := ⟨⟨by decide +kernel, by decide +kernel⟩, List.mem_of_getElem? (i := 610) (by decide +kernel), List.mem_of_getElem? (i := 803) (by decide +kernel), List.mem_of_getElem? (i := 804) (by decide +kernel)⟩
theorem lw_p70 : lw_okq (⟨"SeenFromBehindModel", "goesBy", "(II)V"⟩, 35) := ⟨⟨by decide +kernel, by decide +kernel⟩, List.mem_of_getElem? (i := 610) (by decide +kernel), List.mem_of_getElem? (i := 811) (by decide +kernel), List.mem_of_getElem? (i := 812) (by decide +kernel)⟩
theorem lw_p71 : lw_okq (⟨"SeenFromBehindModel", "aheadOf", "(I)I"⟩, 35) := ⟨⟨by decide +kernel, by decide +kernel⟩, List.mem_of_getElem? (i := 610) (by decide +kernel), List.mem_of_getElem? (i := 815) (by decide +kernel), List.mem_of_getElem? (i := 816) (by decide +kernel)⟩
theorem lw_p72 : lw_okq (⟨"SeenFromBehindModel", "reachOf", "(I)I"⟩, 35) := ⟨⟨by decide +kernel, by decide +kernel⟩, List.mem_of_getElem? (i := 610) (by decide +kernel), List.mem_of_getElem? (i := 819) (by decide +kernel), List.mem_of_getElem? (i := 820) (by decide +kernel)⟩
theorem lw_p73 : lw_okq (⟨"SeenFromBehindModel", "stepTo", "(II)V"⟩, 35) := ⟨⟨by decide +kernel, by decide +kernel⟩, List.mem_of_getElem? (i := 610) (by decide +kernel), List.mem_of_getElem? (i := 823) (by decide +kernel), List.mem_of_getElem? (i := 824) (by decide +kernel)⟩
theorem lw_p74 : lw_okq (⟨"SeenFromBehindModel", "again", "()V"⟩, 35) := ⟨⟨by decide +kernel, by decide +kernel⟩, List.mem_of_getElem? (i := 610) (by decide +kernel), List.mem_of_getElem? (i := 827) (by decide +kernel), List.mem_of_getElem? (i := 828) (by decide +kernel)⟩
theorem lw_p75 : lw_okq (⟨"SeenFromBehindModel", "keepTurn", "()V"⟩, 35) := ⟨⟨by decide +kernel, by decide +kernel⟩, List.mem_of_getElem? (i := 610) (by decide +kernel), List.mem_of_getElem? (i := 864) (by decide +kernel), List.mem_of_getElem? (i := 865) (by decide +kernel)⟩
theorem lw_p76 : lw_okq (⟨"SeenFromBehindModel", "allOfStarts", "()I"⟩, 35) := ⟨⟨by decide +kernel, by decide +kernel⟩, List.mem_of_getElem? (i := 610) (by decide +kernel), List.mem_of_getElem? (i := 876) (by decide +kernel), List.mem_of_getElem? (i := 877) (by decide +kernel)⟩
theorem lw_p77 : lw_okq (⟨"SeenFromBehindModel", "watchersOf", "(I)I"⟩, 35) := ⟨⟨by decide +kernel, by decide +kernel⟩, List.mem_of_getElem? (i := 610) (by decide +kernel), List.mem_of_getElem? (i := 887) (by decide +kernel), List.mem_of_getElem? (i := 888) (by decide +kernel)⟩
theorem lw_p78 : lw_okq (⟨"SeenFromBehindModel", "chainFrom", "(I)I"⟩, 35) := ⟨⟨by decide +kernel, by decide +kernel⟩, List.mem_of_getElem? (i := 610) (by decide +kernel), List.mem_of_getElem? (i := 911) (by decide +kernel), List.mem_of_getElem? (i := 912) (by decide +kernel)⟩
theorem lw_p79 : lw_okq (⟨"SeenFromBehindModel", "isRow", "(I)Z"⟩, 35) := ⟨⟨by decide +kernel, by decide +kernel⟩, List.mem_of_getElem? (i := 610) (by decide +kernel), List.mem_of_getElem? (i := 949) (by decide +kernel), List.mem_of_getElem? (i := 950) (by decide +kernel)⟩
def lw_privs_5 : List (MethodName × Nat) := [(⟨"SeenFromBehindModel", "isOne", "(I)Z"⟩, 35), (⟨"SeenFromBehindModel", "goNights", "(I)V"⟩, 35), (⟨"SeenFromBehindModel", "nightBy", "(I)V"⟩, 35), (⟨"SeenFromBehindModel", "lensOf", "(I)I"⟩, 35), (⟨"SeenFromBehindModel", "depthOf", "(I)I"⟩, 35), (⟨"SeenFromBehindModel", "nextFrom", "(III)I"⟩, 35), (⟨"SeenFromBehindModel", "goesBy", "(II)V"⟩, 35), (⟨"SeenFromBehindModel", "aheadOf", "(I)I"⟩, 35), (⟨"SeenFromBehindModel", "reachOf", "(I)I"⟩, 35), (⟨"SeenFromBehindModel", "stepTo", "(II)V"⟩, 35), (⟨"SeenFromBehindModel", "again", "()V"⟩, 35), (⟨"SeenFromBehindModel", "keepTurn", "()V"⟩, 35), (⟨"SeenFromBehindModel", "allOfStarts", "()I"⟩, 35), (⟨"SeenFromBehindModel", "watchersOf", "(I)I"⟩, 35), (⟨"SeenFromBehindModel", "chainFrom", "(I)I"⟩, 35), (⟨"SeenFromBehindModel", "isRow", "(I)Z"⟩, 35)]
theorem lw_r5 : ∀ q ∈ lw_privs_5, lw_okq q := List.forall_mem_cons.mpr ⟨lw_p64, List.forall_mem_cons.mpr ⟨lw_p65, List.forall_mem_cons.mpr ⟨lw_p66, List.forall_mem_cons.mpr ⟨lw_p67, List.forall_mem_cons.mpr ⟨lw_p68, List.forall_mem_cons.mpr ⟨lw_p69, List.forall_mem_cons.mpr ⟨lw_p70, List.forall_mem_cons.mpr ⟨lw_p71, List.forall_mem_cons.mpr ⟨lw_p72, List.forall_mem_cons.mpr ⟨lw_p73, List.forall_mem_cons.mpr ⟨lw_p74, List.forall_mem_cons.mpr ⟨lw_p75, List.forall_mem_cons.mpr ⟨lw_p76, List.forall_mem_cons.mpr ⟨lw_p77, List.forall_mem_cons.mpr ⟨lw_p78, List.forall_mem_cons.mpr ⟨lw_p79, fun _ h => absurd h List.not_mem_nil⟩⟩⟩⟩⟩⟩⟩⟩⟩⟩⟩⟩⟩⟩⟩⟩
theorem lw_p80 : lw_okq (⟨"SeenFromBehindModel", "stepFrom", "(II)I"⟩, 35) := ⟨⟨by decide +kernel, by decide +kernel⟩, List.mem_of_getElem? (i := 610) (by decide +kernel), List.mem_of_getElem? (i := 957) (by decide +kernel), List.mem_of_getElem? (i := 958) (by decide +kernel)⟩
theorem lw_p81 : lw_okq (⟨"SeenFromBehindModel", "areTwo", "(II)Z"⟩, 35) := ⟨⟨by decide +kernel, by decide +kernel⟩, List.mem_of_getElem? (i := 610) (by decide +kernel), List.mem_of_getElem? (i := 965) (by decide +kernel), List.mem_of_getElem? (i := 966) (by decide +kernel)⟩
theorem lw_p82 : lw_okq (⟨"SeenFromBehindModel", "areResting", "(I)Z"⟩, 35) := ⟨⟨by decide +kernel, by decide +kernel⟩, List.mem_of_getElem? (i := 610) (by decide +kernel), List.mem_of_getElem? (i := 969) (by decide +kernel), List.mem_of_getElem? (i := 970) (by decide +kernel)⟩
theorem lw_p83 : lw_okq (⟨"SeenFromBehindModel", "drawBelow", "(I)I"⟩, 35) := ⟨⟨by decide +kernel, by decide +kernel⟩, List.mem_of_getElem? (i := 610) (by decide +kernel), List.mem_of_getElem? (i := 1047) (by decide +kernel), List.mem_of_getElem? (i := 1048) (by decide +kernel)⟩
def lw_privs_6 : List (MethodName × Nat) := [(⟨"SeenFromBehindModel", "stepFrom", "(II)I"⟩, 35), (⟨"SeenFromBehindModel", "areTwo", "(II)Z"⟩, 35), (⟨"SeenFromBehindModel", "areResting", "(I)Z"⟩, 35), (⟨"SeenFromBehindModel", "drawBelow", "(I)I"⟩, 35)]
theorem lw_r6 : ∀ q ∈ lw_privs_6, lw_okq q := List.forall_mem_cons.mpr ⟨lw_p80, List.forall_mem_cons.mpr ⟨lw_p81, List.forall_mem_cons.mpr ⟨lw_p82, List.forall_mem_cons.mpr ⟨lw_p83, fun _ h => absurd h List.not_mem_nil⟩⟩⟩⟩
def lw_privs : List (MethodName × Nat) := lw_privs_1 ++ (lw_privs_2 ++ (lw_privs_3 ++ (lw_privs_4 ++ (lw_privs_5 ++ (lw_privs_6)))))
def lw_tbl : List Cond := k2_sels lw_privs ++ tables_1
theorem lw_privs_ok : ∀ q ∈ lw_privs, lw_okq q := by
  show ∀ q ∈ lw_privs_1 ++ (lw_privs_2 ++ (lw_privs_3 ++ (lw_privs_4 ++ (lw_privs_5 ++ (lw_privs_6))))), lw_okq q
  exact List.forall_mem_append.mpr ⟨lw_r1, List.forall_mem_append.mpr ⟨lw_r2, List.forall_mem_append.mpr ⟨lw_r3, List.forall_mem_append.mpr ⟨lw_r4, List.forall_mem_append.mpr ⟨lw_r5, lw_r6⟩⟩⟩⟩⟩
end
section
/-! decode, by the bytes: a lemma an opcode, once -/
def zB (c : ByteArray) (p : Nat) : Option Nat := if h : p < c.size then some (c[p]).toNat else none
theorem zrb {α β : Type} (x : Decoder α) (f : α → Decoder β) (c : ByteArray) (p : Nat) : Reader.runAt (x >>= f) c p = match Reader.runAt x c p with | .ok (a, q) => Reader.runAt (f a) c q | .error e => .error e := by
  show (Reader.runAt x c p).bind _ = _
  cases Reader.runAt x c p <;> rfl
theorem zu1 {c : ByteArray} {p b : Nat} (h : zB c p = some b) : Reader.runAt (Reader.u1 : Decoder Nat) c p = .ok (b, p + 1) := by
  unfold zB at h
  by_cases hp : p < c.size
  · rw [dif_pos hp] at h
    have hb := Option.some.inj h
    show (if h : p < c.size then _ else _ : Decoder Nat) c p = _
    rw [dif_pos hp]
    show Except.ok (_, _) = _
    rw [hb]
  · rw [dif_neg hp] at h
    cases h
theorem zu2 {c : ByteArray} {p a b : Nat} (h : zB c p = some a) (h1 : zB c (p + 1) = some b) : Reader.runAt (Reader.u2 : Decoder Nat) c p = .ok (a * 256 + b, p + 2) := by
  unfold Reader.u2
  rw [zrb, zu1 h]
  show Reader.runAt (_ >>= _) c (p + 1) = _
  rw [zrb, zu1 h1]
  rfl
theorem zs1 {c : ByteArray} {p a : Nat} (h : zB c p = some a) : Reader.runAt (Reader.s1 : Decoder Int) c p = .ok (Reader.signed 8 a, p + 1) := by
  unfold Reader.s1
  show Reader.runAt (Reader.u1 >>= fun x => pure (Reader.signed 8 x)) c p = _
  rw [zrb, zu1 h]
  rfl
theorem zs2 {c : ByteArray} {p a b : Nat} (h : zB c p = some a) (h1 : zB c (p + 1) = some b) : Reader.runAt (Reader.s2 : Decoder Int) c p = .ok (Reader.signed 16 (a * 256 + b), p + 2) := by
  unfold Reader.s2
  show Reader.runAt (Reader.u2 >>= fun x => pure (Reader.signed 16 x)) c p = _
  rw [zrb, zu2 h h1]
  rfl
theorem zdec {c : ByteArray} {p q : Nat} {i : Instr} (h : Reader.runAt (Decoder.instr p) c p = .ok (i, q)) {n : Nat} (hn : q - p = n) : decode c p = .ok (i, n) := by
  unfold decode
  rw [h]
  show Except.ok (i, q - p) = _
  rw [hn]

theorem zd_1 {c : ByteArray} {p : Nat} (h : zB c p = some 1) : decode c p = .ok (.aconst_null, 1) := zdec (q := p + 1) (by unfold Decoder.instr; rw [zrb, zu1 h]; rfl) (by omega)
theorem zd_2 {c : ByteArray} {p : Nat} (h : zB c p = some 2) : decode c p = .ok (.iconst (-1), 1) := zdec (q := p + 1) (by unfold Decoder.instr; rw [zrb, zu1 h]; rfl) (by omega)
theorem zd_3 {c : ByteArray} {p : Nat} (h : zB c p = some 3) : decode c p = .ok (.iconst 0, 1) := zdec (q := p + 1) (by unfold Decoder.instr; rw [zrb, zu1 h]; rfl) (by omega)
theorem zd_4 {c : ByteArray} {p : Nat} (h : zB c p = some 4) : decode c p = .ok (.iconst 1, 1) := zdec (q := p + 1) (by unfold Decoder.instr; rw [zrb, zu1 h]; rfl) (by omega)
theorem zd_5 {c : ByteArray} {p : Nat} (h : zB c p = some 5) : decode c p = .ok (.iconst 2, 1) := zdec (q := p + 1) (by unfold Decoder.instr; rw [zrb, zu1 h]; rfl) (by omega)
theorem zd_6 {c : ByteArray} {p : Nat} (h : zB c p = some 6) : decode c p = .ok (.iconst 3, 1) := zdec (q := p + 1) (by unfold Decoder.instr; rw [zrb, zu1 h]; rfl) (by omega)
theorem zd_7 {c : ByteArray} {p : Nat} (h : zB c p = some 7) : decode c p = .ok (.iconst 4, 1) := zdec (q := p + 1) (by unfold Decoder.instr; rw [zrb, zu1 h]; rfl) (by omega)
theorem zd_8 {c : ByteArray} {p : Nat} (h : zB c p = some 8) : decode c p = .ok (.iconst 5, 1) := zdec (q := p + 1) (by unfold Decoder.instr; rw [zrb, zu1 h]; rfl) (by omega)
theorem zd_9 {c : ByteArray} {p : Nat} (h : zB c p = some 9) : decode c p = .ok (.lconst 0, 1) := zdec (q := p + 1) (by unfold Decoder.instr; rw [zrb, zu1 h]; rfl) (by omega)
theorem zd_10 {c : ByteArray} {p : Nat} (h : zB c p = some 10) : decode c p = .ok (.lconst 1, 1) := zdec (q := p + 1) (by unfold Decoder.instr; rw [zrb, zu1 h]; rfl) (by omega)
theorem zd_26 {c : ByteArray} {p : Nat} (h : zB c p = some 26) : decode c p = .ok (.iload_n 0, 1) := zdec (q := p + 1) (by unfold Decoder.instr; rw [zrb, zu1 h]; rfl) (by omega)
theorem zd_27 {c : ByteArray} {p : Nat} (h : zB c p = some 27) : decode c p = .ok (.iload_n 1, 1) := zdec (q := p + 1) (by unfold Decoder.instr; rw [zrb, zu1 h]; rfl) (by omega)
theorem zd_28 {c : ByteArray} {p : Nat} (h : zB c p = some 28) : decode c p = .ok (.iload_n 2, 1) := zdec (q := p + 1) (by unfold Decoder.instr; rw [zrb, zu1 h]; rfl) (by omega)
theorem zd_29 {c : ByteArray} {p : Nat} (h : zB c p = some 29) : decode c p = .ok (.iload_n 3, 1) := zdec (q := p + 1) (by unfold Decoder.instr; rw [zrb, zu1 h]; rfl) (by omega)
theorem zd_30 {c : ByteArray} {p : Nat} (h : zB c p = some 30) : decode c p = .ok (.lload_n 0, 1) := zdec (q := p + 1) (by unfold Decoder.instr; rw [zrb, zu1 h]; rfl) (by omega)
theorem zd_31 {c : ByteArray} {p : Nat} (h : zB c p = some 31) : decode c p = .ok (.lload_n 1, 1) := zdec (q := p + 1) (by unfold Decoder.instr; rw [zrb, zu1 h]; rfl) (by omega)
theorem zd_32 {c : ByteArray} {p : Nat} (h : zB c p = some 32) : decode c p = .ok (.lload_n 2, 1) := zdec (q := p + 1) (by unfold Decoder.instr; rw [zrb, zu1 h]; rfl) (by omega)
theorem zd_33 {c : ByteArray} {p : Nat} (h : zB c p = some 33) : decode c p = .ok (.lload_n 3, 1) := zdec (q := p + 1) (by unfold Decoder.instr; rw [zrb, zu1 h]; rfl) (by omega)
theorem zd_42 {c : ByteArray} {p : Nat} (h : zB c p = some 42) : decode c p = .ok (.aload_n 0, 1) := zdec (q := p + 1) (by unfold Decoder.instr; rw [zrb, zu1 h]; rfl) (by omega)
theorem zd_43 {c : ByteArray} {p : Nat} (h : zB c p = some 43) : decode c p = .ok (.aload_n 1, 1) := zdec (q := p + 1) (by unfold Decoder.instr; rw [zrb, zu1 h]; rfl) (by omega)
theorem zd_44 {c : ByteArray} {p : Nat} (h : zB c p = some 44) : decode c p = .ok (.aload_n 2, 1) := zdec (q := p + 1) (by unfold Decoder.instr; rw [zrb, zu1 h]; rfl) (by omega)
theorem zd_45 {c : ByteArray} {p : Nat} (h : zB c p = some 45) : decode c p = .ok (.aload_n 3, 1) := zdec (q := p + 1) (by unfold Decoder.instr; rw [zrb, zu1 h]; rfl) (by omega)
theorem zd_46 {c : ByteArray} {p : Nat} (h : zB c p = some 46) : decode c p = .ok (.iaload, 1) := zdec (q := p + 1) (by unfold Decoder.instr; rw [zrb, zu1 h]; rfl) (by omega)
theorem zd_50 {c : ByteArray} {p : Nat} (h : zB c p = some 50) : decode c p = .ok (.aaload, 1) := zdec (q := p + 1) (by unfold Decoder.instr; rw [zrb, zu1 h]; rfl) (by omega)
theorem zd_59 {c : ByteArray} {p : Nat} (h : zB c p = some 59) : decode c p = .ok (.istore_n 0, 1) := zdec (q := p + 1) (by unfold Decoder.instr; rw [zrb, zu1 h]; rfl) (by omega)
theorem zd_60 {c : ByteArray} {p : Nat} (h : zB c p = some 60) : decode c p = .ok (.istore_n 1, 1) := zdec (q := p + 1) (by unfold Decoder.instr; rw [zrb, zu1 h]; rfl) (by omega)
theorem zd_61 {c : ByteArray} {p : Nat} (h : zB c p = some 61) : decode c p = .ok (.istore_n 2, 1) := zdec (q := p + 1) (by unfold Decoder.instr; rw [zrb, zu1 h]; rfl) (by omega)
theorem zd_62 {c : ByteArray} {p : Nat} (h : zB c p = some 62) : decode c p = .ok (.istore_n 3, 1) := zdec (q := p + 1) (by unfold Decoder.instr; rw [zrb, zu1 h]; rfl) (by omega)
theorem zd_63 {c : ByteArray} {p : Nat} (h : zB c p = some 63) : decode c p = .ok (.lstore_n 0, 1) := zdec (q := p + 1) (by unfold Decoder.instr; rw [zrb, zu1 h]; rfl) (by omega)
theorem zd_64 {c : ByteArray} {p : Nat} (h : zB c p = some 64) : decode c p = .ok (.lstore_n 1, 1) := zdec (q := p + 1) (by unfold Decoder.instr; rw [zrb, zu1 h]; rfl) (by omega)
theorem zd_65 {c : ByteArray} {p : Nat} (h : zB c p = some 65) : decode c p = .ok (.lstore_n 2, 1) := zdec (q := p + 1) (by unfold Decoder.instr; rw [zrb, zu1 h]; rfl) (by omega)
theorem zd_66 {c : ByteArray} {p : Nat} (h : zB c p = some 66) : decode c p = .ok (.lstore_n 3, 1) := zdec (q := p + 1) (by unfold Decoder.instr; rw [zrb, zu1 h]; rfl) (by omega)
theorem zd_75 {c : ByteArray} {p : Nat} (h : zB c p = some 75) : decode c p = .ok (.astore_n 0, 1) := zdec (q := p + 1) (by unfold Decoder.instr; rw [zrb, zu1 h]; rfl) (by omega)
theorem zd_76 {c : ByteArray} {p : Nat} (h : zB c p = some 76) : decode c p = .ok (.astore_n 1, 1) := zdec (q := p + 1) (by unfold Decoder.instr; rw [zrb, zu1 h]; rfl) (by omega)
theorem zd_77 {c : ByteArray} {p : Nat} (h : zB c p = some 77) : decode c p = .ok (.astore_n 2, 1) := zdec (q := p + 1) (by unfold Decoder.instr; rw [zrb, zu1 h]; rfl) (by omega)
theorem zd_78 {c : ByteArray} {p : Nat} (h : zB c p = some 78) : decode c p = .ok (.astore_n 3, 1) := zdec (q := p + 1) (by unfold Decoder.instr; rw [zrb, zu1 h]; rfl) (by omega)
theorem zd_79 {c : ByteArray} {p : Nat} (h : zB c p = some 79) : decode c p = .ok (.iastore, 1) := zdec (q := p + 1) (by unfold Decoder.instr; rw [zrb, zu1 h]; rfl) (by omega)
theorem zd_83 {c : ByteArray} {p : Nat} (h : zB c p = some 83) : decode c p = .ok (.aastore, 1) := zdec (q := p + 1) (by unfold Decoder.instr; rw [zrb, zu1 h]; rfl) (by omega)
theorem zd_87 {c : ByteArray} {p : Nat} (h : zB c p = some 87) : decode c p = .ok (.pop, 1) := zdec (q := p + 1) (by unfold Decoder.instr; rw [zrb, zu1 h]; rfl) (by omega)
theorem zd_89 {c : ByteArray} {p : Nat} (h : zB c p = some 89) : decode c p = .ok (.dup, 1) := zdec (q := p + 1) (by unfold Decoder.instr; rw [zrb, zu1 h]; rfl) (by omega)
theorem zd_92 {c : ByteArray} {p : Nat} (h : zB c p = some 92) : decode c p = .ok (.dup2, 1) := zdec (q := p + 1) (by unfold Decoder.instr; rw [zrb, zu1 h]; rfl) (by omega)
theorem zd_96 {c : ByteArray} {p : Nat} (h : zB c p = some 96) : decode c p = .ok (.iadd, 1) := zdec (q := p + 1) (by unfold Decoder.instr; rw [zrb, zu1 h]; rfl) (by omega)
theorem zd_97 {c : ByteArray} {p : Nat} (h : zB c p = some 97) : decode c p = .ok (.ladd, 1) := zdec (q := p + 1) (by unfold Decoder.instr; rw [zrb, zu1 h]; rfl) (by omega)
theorem zd_100 {c : ByteArray} {p : Nat} (h : zB c p = some 100) : decode c p = .ok (.isub, 1) := zdec (q := p + 1) (by unfold Decoder.instr; rw [zrb, zu1 h]; rfl) (by omega)
theorem zd_101 {c : ByteArray} {p : Nat} (h : zB c p = some 101) : decode c p = .ok (.lsub, 1) := zdec (q := p + 1) (by unfold Decoder.instr; rw [zrb, zu1 h]; rfl) (by omega)
theorem zd_104 {c : ByteArray} {p : Nat} (h : zB c p = some 104) : decode c p = .ok (.imul, 1) := zdec (q := p + 1) (by unfold Decoder.instr; rw [zrb, zu1 h]; rfl) (by omega)
theorem zd_105 {c : ByteArray} {p : Nat} (h : zB c p = some 105) : decode c p = .ok (.lmul, 1) := zdec (q := p + 1) (by unfold Decoder.instr; rw [zrb, zu1 h]; rfl) (by omega)
theorem zd_108 {c : ByteArray} {p : Nat} (h : zB c p = some 108) : decode c p = .ok (.idiv, 1) := zdec (q := p + 1) (by unfold Decoder.instr; rw [zrb, zu1 h]; rfl) (by omega)
theorem zd_109 {c : ByteArray} {p : Nat} (h : zB c p = some 109) : decode c p = .ok (.ldiv, 1) := zdec (q := p + 1) (by unfold Decoder.instr; rw [zrb, zu1 h]; rfl) (by omega)
theorem zd_112 {c : ByteArray} {p : Nat} (h : zB c p = some 112) : decode c p = .ok (.irem, 1) := zdec (q := p + 1) (by unfold Decoder.instr; rw [zrb, zu1 h]; rfl) (by omega)
theorem zd_113 {c : ByteArray} {p : Nat} (h : zB c p = some 113) : decode c p = .ok (.lrem, 1) := zdec (q := p + 1) (by unfold Decoder.instr; rw [zrb, zu1 h]; rfl) (by omega)
theorem zd_116 {c : ByteArray} {p : Nat} (h : zB c p = some 116) : decode c p = .ok (.ineg, 1) := zdec (q := p + 1) (by unfold Decoder.instr; rw [zrb, zu1 h]; rfl) (by omega)
theorem zd_120 {c : ByteArray} {p : Nat} (h : zB c p = some 120) : decode c p = .ok (.ishl, 1) := zdec (q := p + 1) (by unfold Decoder.instr; rw [zrb, zu1 h]; rfl) (by omega)
theorem zd_122 {c : ByteArray} {p : Nat} (h : zB c p = some 122) : decode c p = .ok (.ishr, 1) := zdec (q := p + 1) (by unfold Decoder.instr; rw [zrb, zu1 h]; rfl) (by omega)
theorem zd_124 {c : ByteArray} {p : Nat} (h : zB c p = some 124) : decode c p = .ok (.iushr, 1) := zdec (q := p + 1) (by unfold Decoder.instr; rw [zrb, zu1 h]; rfl) (by omega)
theorem zd_126 {c : ByteArray} {p : Nat} (h : zB c p = some 126) : decode c p = .ok (.iand, 1) := zdec (q := p + 1) (by unfold Decoder.instr; rw [zrb, zu1 h]; rfl) (by omega)
theorem zd_128 {c : ByteArray} {p : Nat} (h : zB c p = some 128) : decode c p = .ok (.ior, 1) := zdec (q := p + 1) (by unfold Decoder.instr; rw [zrb, zu1 h]; rfl) (by omega)
theorem zd_130 {c : ByteArray} {p : Nat} (h : zB c p = some 130) : decode c p = .ok (.ixor, 1) := zdec (q := p + 1) (by unfold Decoder.instr; rw [zrb, zu1 h]; rfl) (by omega)
theorem zd_133 {c : ByteArray} {p : Nat} (h : zB c p = some 133) : decode c p = .ok (.i2l, 1) := zdec (q := p + 1) (by unfold Decoder.instr; rw [zrb, zu1 h]; rfl) (by omega)
theorem zd_148 {c : ByteArray} {p : Nat} (h : zB c p = some 148) : decode c p = .ok (.lcmp, 1) := zdec (q := p + 1) (by unfold Decoder.instr; rw [zrb, zu1 h]; rfl) (by omega)
theorem zd_172 {c : ByteArray} {p : Nat} (h : zB c p = some 172) : decode c p = .ok (.ireturn, 1) := zdec (q := p + 1) (by unfold Decoder.instr; rw [zrb, zu1 h]; rfl) (by omega)
theorem zd_173 {c : ByteArray} {p : Nat} (h : zB c p = some 173) : decode c p = .ok (.lreturn, 1) := zdec (q := p + 1) (by unfold Decoder.instr; rw [zrb, zu1 h]; rfl) (by omega)
theorem zd_176 {c : ByteArray} {p : Nat} (h : zB c p = some 176) : decode c p = .ok (.areturn, 1) := zdec (q := p + 1) (by unfold Decoder.instr; rw [zrb, zu1 h]; rfl) (by omega)
theorem zd_177 {c : ByteArray} {p : Nat} (h : zB c p = some 177) : decode c p = .ok (.return_, 1) := zdec (q := p + 1) (by unfold Decoder.instr; rw [zrb, zu1 h]; rfl) (by omega)
theorem zd_190 {c : ByteArray} {p : Nat} (h : zB c p = some 190) : decode c p = .ok (.arraylength, 1) := zdec (q := p + 1) (by unfold Decoder.instr; rw [zrb, zu1 h]; rfl) (by omega)
theorem zd_18 {c : ByteArray} {p a : Nat} (h : zB c p = some 18) (h1 : zB c (p + 1) = some a) : decode c p = .ok (.ldc a, 2) := zdec (q := p + 2) (by unfold Decoder.instr; rw [zrb, zu1 h]; show Reader.runAt (_ >>= _) c (p + 1) = _; rw [zrb, zu1 h1]; rfl) (by omega)
theorem zd_21 {c : ByteArray} {p a : Nat} (h : zB c p = some 21) (h1 : zB c (p + 1) = some a) : decode c p = .ok (.iload a, 2) := zdec (q := p + 2) (by unfold Decoder.instr; rw [zrb, zu1 h]; show Reader.runAt (_ >>= _) c (p + 1) = _; rw [zrb, zu1 h1]; rfl) (by omega)
theorem zd_22 {c : ByteArray} {p a : Nat} (h : zB c p = some 22) (h1 : zB c (p + 1) = some a) : decode c p = .ok (.lload a, 2) := zdec (q := p + 2) (by unfold Decoder.instr; rw [zrb, zu1 h]; show Reader.runAt (_ >>= _) c (p + 1) = _; rw [zrb, zu1 h1]; rfl) (by omega)
theorem zd_25 {c : ByteArray} {p a : Nat} (h : zB c p = some 25) (h1 : zB c (p + 1) = some a) : decode c p = .ok (.aload a, 2) := zdec (q := p + 2) (by unfold Decoder.instr; rw [zrb, zu1 h]; show Reader.runAt (_ >>= _) c (p + 1) = _; rw [zrb, zu1 h1]; rfl) (by omega)
theorem zd_54 {c : ByteArray} {p a : Nat} (h : zB c p = some 54) (h1 : zB c (p + 1) = some a) : decode c p = .ok (.istore a, 2) := zdec (q := p + 2) (by unfold Decoder.instr; rw [zrb, zu1 h]; show Reader.runAt (_ >>= _) c (p + 1) = _; rw [zrb, zu1 h1]; rfl) (by omega)
theorem zd_55 {c : ByteArray} {p a : Nat} (h : zB c p = some 55) (h1 : zB c (p + 1) = some a) : decode c p = .ok (.lstore a, 2) := zdec (q := p + 2) (by unfold Decoder.instr; rw [zrb, zu1 h]; show Reader.runAt (_ >>= _) c (p + 1) = _; rw [zrb, zu1 h1]; rfl) (by omega)
theorem zd_58 {c : ByteArray} {p a : Nat} (h : zB c p = some 58) (h1 : zB c (p + 1) = some a) : decode c p = .ok (.astore a, 2) := zdec (q := p + 2) (by unfold Decoder.instr; rw [zrb, zu1 h]; show Reader.runAt (_ >>= _) c (p + 1) = _; rw [zrb, zu1 h1]; rfl) (by omega)
theorem zd_16 {c : ByteArray} {p a : Nat} (h : zB c p = some 16) (h1 : zB c (p + 1) = some a) : decode c p = .ok (.bipush (Reader.signed 8 a), 2) := zdec (q := p + 2) (by unfold Decoder.instr; rw [zrb, zu1 h]; show Reader.runAt (_ >>= _) c (p + 1) = _; rw [zrb, zs1 h1]; rfl) (by omega)
theorem zd_188 {c : ByteArray} {p : Nat} (h : zB c p = some 188) (h1 : zB c (p + 1) = some 10) : decode c p = .ok (.newarray .int, 2) := zdec (q := p + 2) (by unfold Decoder.instr; rw [zrb, zu1 h]; show Reader.runAt (Decoder.newarray p) c (p + 1) = _; unfold Decoder.newarray; rw [zrb, zu1 h1]; rfl) (by omega)
theorem zd_19 {c : ByteArray} {p a a2 : Nat} (h : zB c p = some 19) (h1 : zB c (p + 1) = some a) (h2 : zB c (p + 1 + 1) = some a2) : decode c p = .ok (.ldc_w (a * 256 + a2), 3) := zdec (q := p + 3) (by unfold Decoder.instr; rw [zrb, zu1 h]; show Reader.runAt (_ >>= _) c (p + 1) = _; rw [zrb, zu2 h1 h2]; rfl) (by omega)
theorem zd_20 {c : ByteArray} {p a a2 : Nat} (h : zB c p = some 20) (h1 : zB c (p + 1) = some a) (h2 : zB c (p + 1 + 1) = some a2) : decode c p = .ok (.ldc2_w (a * 256 + a2), 3) := zdec (q := p + 3) (by unfold Decoder.instr; rw [zrb, zu1 h]; show Reader.runAt (_ >>= _) c (p + 1) = _; rw [zrb, zu2 h1 h2]; rfl) (by omega)
theorem zd_180 {c : ByteArray} {p a a2 : Nat} (h : zB c p = some 180) (h1 : zB c (p + 1) = some a) (h2 : zB c (p + 1 + 1) = some a2) : decode c p = .ok (.getfield (a * 256 + a2), 3) := zdec (q := p + 3) (by unfold Decoder.instr; rw [zrb, zu1 h]; show Reader.runAt (_ >>= _) c (p + 1) = _; rw [zrb, zu2 h1 h2]; rfl) (by omega)
theorem zd_181 {c : ByteArray} {p a a2 : Nat} (h : zB c p = some 181) (h1 : zB c (p + 1) = some a) (h2 : zB c (p + 1 + 1) = some a2) : decode c p = .ok (.putfield (a * 256 + a2), 3) := zdec (q := p + 3) (by unfold Decoder.instr; rw [zrb, zu1 h]; show Reader.runAt (_ >>= _) c (p + 1) = _; rw [zrb, zu2 h1 h2]; rfl) (by omega)
theorem zd_182 {c : ByteArray} {p a a2 : Nat} (h : zB c p = some 182) (h1 : zB c (p + 1) = some a) (h2 : zB c (p + 1 + 1) = some a2) : decode c p = .ok (.invokevirtual (a * 256 + a2), 3) := zdec (q := p + 3) (by unfold Decoder.instr; rw [zrb, zu1 h]; show Reader.runAt (_ >>= _) c (p + 1) = _; rw [zrb, zu2 h1 h2]; rfl) (by omega)
theorem zd_183 {c : ByteArray} {p a a2 : Nat} (h : zB c p = some 183) (h1 : zB c (p + 1) = some a) (h2 : zB c (p + 1 + 1) = some a2) : decode c p = .ok (.invokespecial (a * 256 + a2), 3) := zdec (q := p + 3) (by unfold Decoder.instr; rw [zrb, zu1 h]; show Reader.runAt (_ >>= _) c (p + 1) = _; rw [zrb, zu2 h1 h2]; rfl) (by omega)
theorem zd_184 {c : ByteArray} {p a a2 : Nat} (h : zB c p = some 184) (h1 : zB c (p + 1) = some a) (h2 : zB c (p + 1 + 1) = some a2) : decode c p = .ok (.invokestatic (a * 256 + a2), 3) := zdec (q := p + 3) (by unfold Decoder.instr; rw [zrb, zu1 h]; show Reader.runAt (_ >>= _) c (p + 1) = _; rw [zrb, zu2 h1 h2]; rfl) (by omega)
theorem zd_187 {c : ByteArray} {p a a2 : Nat} (h : zB c p = some 187) (h1 : zB c (p + 1) = some a) (h2 : zB c (p + 1 + 1) = some a2) : decode c p = .ok (.new (a * 256 + a2), 3) := zdec (q := p + 3) (by unfold Decoder.instr; rw [zrb, zu1 h]; show Reader.runAt (_ >>= _) c (p + 1) = _; rw [zrb, zu2 h1 h2]; rfl) (by omega)
theorem zd_189 {c : ByteArray} {p a a2 : Nat} (h : zB c p = some 189) (h1 : zB c (p + 1) = some a) (h2 : zB c (p + 1 + 1) = some a2) : decode c p = .ok (.anewarray (a * 256 + a2), 3) := zdec (q := p + 3) (by unfold Decoder.instr; rw [zrb, zu1 h]; show Reader.runAt (_ >>= _) c (p + 1) = _; rw [zrb, zu2 h1 h2]; rfl) (by omega)
theorem zd_17 {c : ByteArray} {p a a2 : Nat} (h : zB c p = some 17) (h1 : zB c (p + 1) = some a) (h2 : zB c (p + 1 + 1) = some a2) : decode c p = .ok (.sipush (Reader.signed 16 (a * 256 + a2)), 3) := zdec (q := p + 3) (by unfold Decoder.instr; rw [zrb, zu1 h]; show Reader.runAt (_ >>= _) c (p + 1) = _; rw [zrb, zs2 h1 h2]; rfl) (by omega)
theorem zd_153 {c : ByteArray} {p a a2 : Nat} (h : zB c p = some 153) (h1 : zB c (p + 1) = some a) (h2 : zB c (p + 1 + 1) = some a2) : decode c p = .ok (.ifCond .eq (Reader.signed 16 (a * 256 + a2)), 3) := zdec (q := p + 3) (by unfold Decoder.instr; rw [zrb, zu1 h]; show Reader.runAt (_ >>= _) c (p + 1) = _; rw [zrb, zs2 h1 h2]; rfl) (by omega)
theorem zd_154 {c : ByteArray} {p a a2 : Nat} (h : zB c p = some 154) (h1 : zB c (p + 1) = some a) (h2 : zB c (p + 1 + 1) = some a2) : decode c p = .ok (.ifCond .ne (Reader.signed 16 (a * 256 + a2)), 3) := zdec (q := p + 3) (by unfold Decoder.instr; rw [zrb, zu1 h]; show Reader.runAt (_ >>= _) c (p + 1) = _; rw [zrb, zs2 h1 h2]; rfl) (by omega)
theorem zd_155 {c : ByteArray} {p a a2 : Nat} (h : zB c p = some 155) (h1 : zB c (p + 1) = some a) (h2 : zB c (p + 1 + 1) = some a2) : decode c p = .ok (.ifCond .lt (Reader.signed 16 (a * 256 + a2)), 3) := zdec (q := p + 3) (by unfold Decoder.instr; rw [zrb, zu1 h]; show Reader.runAt (_ >>= _) c (p + 1) = _; rw [zrb, zs2 h1 h2]; rfl) (by omega)
theorem zd_156 {c : ByteArray} {p a a2 : Nat} (h : zB c p = some 156) (h1 : zB c (p + 1) = some a) (h2 : zB c (p + 1 + 1) = some a2) : decode c p = .ok (.ifCond .ge (Reader.signed 16 (a * 256 + a2)), 3) := zdec (q := p + 3) (by unfold Decoder.instr; rw [zrb, zu1 h]; show Reader.runAt (_ >>= _) c (p + 1) = _; rw [zrb, zs2 h1 h2]; rfl) (by omega)
theorem zd_157 {c : ByteArray} {p a a2 : Nat} (h : zB c p = some 157) (h1 : zB c (p + 1) = some a) (h2 : zB c (p + 1 + 1) = some a2) : decode c p = .ok (.ifCond .gt (Reader.signed 16 (a * 256 + a2)), 3) := zdec (q := p + 3) (by unfold Decoder.instr; rw [zrb, zu1 h]; show Reader.runAt (_ >>= _) c (p + 1) = _; rw [zrb, zs2 h1 h2]; rfl) (by omega)
theorem zd_158 {c : ByteArray} {p a a2 : Nat} (h : zB c p = some 158) (h1 : zB c (p + 1) = some a) (h2 : zB c (p + 1 + 1) = some a2) : decode c p = .ok (.ifCond .le (Reader.signed 16 (a * 256 + a2)), 3) := zdec (q := p + 3) (by unfold Decoder.instr; rw [zrb, zu1 h]; show Reader.runAt (_ >>= _) c (p + 1) = _; rw [zrb, zs2 h1 h2]; rfl) (by omega)
theorem zd_159 {c : ByteArray} {p a a2 : Nat} (h : zB c p = some 159) (h1 : zB c (p + 1) = some a) (h2 : zB c (p + 1 + 1) = some a2) : decode c p = .ok (.if_icmp .eq (Reader.signed 16 (a * 256 + a2)), 3) := zdec (q := p + 3) (by unfold Decoder.instr; rw [zrb, zu1 h]; show Reader.runAt (_ >>= _) c (p + 1) = _; rw [zrb, zs2 h1 h2]; rfl) (by omega)
theorem zd_160 {c : ByteArray} {p a a2 : Nat} (h : zB c p = some 160) (h1 : zB c (p + 1) = some a) (h2 : zB c (p + 1 + 1) = some a2) : decode c p = .ok (.if_icmp .ne (Reader.signed 16 (a * 256 + a2)), 3) := zdec (q := p + 3) (by unfold Decoder.instr; rw [zrb, zu1 h]; show Reader.runAt (_ >>= _) c (p + 1) = _; rw [zrb, zs2 h1 h2]; rfl) (by omega)
theorem zd_161 {c : ByteArray} {p a a2 : Nat} (h : zB c p = some 161) (h1 : zB c (p + 1) = some a) (h2 : zB c (p + 1 + 1) = some a2) : decode c p = .ok (.if_icmp .lt (Reader.signed 16 (a * 256 + a2)), 3) := zdec (q := p + 3) (by unfold Decoder.instr; rw [zrb, zu1 h]; show Reader.runAt (_ >>= _) c (p + 1) = _; rw [zrb, zs2 h1 h2]; rfl) (by omega)
theorem zd_162 {c : ByteArray} {p a a2 : Nat} (h : zB c p = some 162) (h1 : zB c (p + 1) = some a) (h2 : zB c (p + 1 + 1) = some a2) : decode c p = .ok (.if_icmp .ge (Reader.signed 16 (a * 256 + a2)), 3) := zdec (q := p + 3) (by unfold Decoder.instr; rw [zrb, zu1 h]; show Reader.runAt (_ >>= _) c (p + 1) = _; rw [zrb, zs2 h1 h2]; rfl) (by omega)
theorem zd_163 {c : ByteArray} {p a a2 : Nat} (h : zB c p = some 163) (h1 : zB c (p + 1) = some a) (h2 : zB c (p + 1 + 1) = some a2) : decode c p = .ok (.if_icmp .gt (Reader.signed 16 (a * 256 + a2)), 3) := zdec (q := p + 3) (by unfold Decoder.instr; rw [zrb, zu1 h]; show Reader.runAt (_ >>= _) c (p + 1) = _; rw [zrb, zs2 h1 h2]; rfl) (by omega)
theorem zd_164 {c : ByteArray} {p a a2 : Nat} (h : zB c p = some 164) (h1 : zB c (p + 1) = some a) (h2 : zB c (p + 1 + 1) = some a2) : decode c p = .ok (.if_icmp .le (Reader.signed 16 (a * 256 + a2)), 3) := zdec (q := p + 3) (by unfold Decoder.instr; rw [zrb, zu1 h]; show Reader.runAt (_ >>= _) c (p + 1) = _; rw [zrb, zs2 h1 h2]; rfl) (by omega)
theorem zd_167 {c : ByteArray} {p a a2 : Nat} (h : zB c p = some 167) (h1 : zB c (p + 1) = some a) (h2 : zB c (p + 1 + 1) = some a2) : decode c p = .ok (.goto (Reader.signed 16 (a * 256 + a2)), 3) := zdec (q := p + 3) (by unfold Decoder.instr; rw [zrb, zu1 h]; show Reader.runAt (_ >>= _) c (p + 1) = _; rw [zrb, zs2 h1 h2]; rfl) (by omega)
theorem zd_198 {c : ByteArray} {p a a2 : Nat} (h : zB c p = some 198) (h1 : zB c (p + 1) = some a) (h2 : zB c (p + 1 + 1) = some a2) : decode c p = .ok (.ifnull (Reader.signed 16 (a * 256 + a2)), 3) := zdec (q := p + 3) (by unfold Decoder.instr; rw [zrb, zu1 h]; show Reader.runAt (_ >>= _) c (p + 1) = _; rw [zrb, zs2 h1 h2]; rfl) (by omega)
theorem zd_199 {c : ByteArray} {p a a2 : Nat} (h : zB c p = some 199) (h1 : zB c (p + 1) = some a) (h2 : zB c (p + 1 + 1) = some a2) : decode c p = .ok (.ifnonnull (Reader.signed 16 (a * 256 + a2)), 3) := zdec (q := p + 3) (by unfold Decoder.instr; rw [zrb, zu1 h]; show Reader.runAt (_ >>= _) c (p + 1) = _; rw [zrb, zs2 h1 h2]; rfl) (by omega)
theorem zd_132 {c : ByteArray} {p a a2 : Nat} (h : zB c p = some 132) (h1 : zB c (p + 1) = some a) (h2 : zB c (p + 1 + 1) = some a2) : decode c p = .ok (.iinc a (Reader.signed 8 a2), 3) := zdec (q := p + 3) (by unfold Decoder.instr; rw [zrb, zu1 h]; show Reader.runAt (_ >>= _) c (p + 1) = _; rw [zrb, zu1 h1]; show Reader.runAt (_ >>= _) c (p + 1 + 1) = _; rw [zrb, zs1 h2]; rfl) (by omega)
end
section
/-! the evaluator: the bytecode over an abstract heap (positions, not addresses) -/
/-- the heap: ints by cell and slot; the one reference field that moves -/
abbrev zH : Type := (Nat → Nat → Int32) × Nat
/-- a method: class, name, code, locals, answer, parameters, rank, recursion -/
abbrev zM : Type := Nat × MethodName × ByteArray × Nat × Option FieldType × Nat × Nat × Nat
abbrev zL : Type := List (Option Value)
/-- the phase: how many cells there are; references written into fields and arrays -/
abbrev zP : Type := Nat × List (Nat × Nat × Nat)
/-- the script -/
abbrev zX : Type := Nat × (Nat → Int32)
abbrev zS : Type := Nat × zL × List Value × zP × zH
abbrev zR : Type := Option Value × zP × zH
def zo (k : zM) : Nat := k.1
def zn (k : zM) : MethodName := k.2.1
def zb (k : zM) : ByteArray := k.2.2.1
def zml (k : zM) : Nat := k.2.2.2.1
def zrt (k : zM) : Option FieldType := k.2.2.2.2.1
def znp (k : zM) : Nat := k.2.2.2.2.2.1
def zSH : List (Nat × Nat) := [(5, 10), (2, 9), (0, 6), (0, 6), (0, 6), (0, 6), (0, 6), (2, 9), (0, 6), (0, 6), (0, 6), (0, 6), (0, 6), (1, 8), (2, 9), (0, 6), (0, 6), (0, 6), (0, 6), (0, 6), (3, 3), (1, 8), (2, 9), (0, 6), (0, 6), (0, 6), (0, 6), (0, 6), (2, 9), (0, 6), (0, 6), (0, 6), (0, 6), (0, 6), (2, 9), (0, 6), (0, 6), (0, 6), (0, 6), (0, 6), (2, 9), (0, 6), (0, 6), (0, 6), (0, 6), (0, 6), (2, 9), (0, 6), (0, 6), (0, 6), (0, 6), (0, 6), (2, 9), (0, 6), (0, 6), (0, 6), (0, 6), (0, 6), (2, 9), (0, 6), (0, 6), (0, 6), (0, 6), (0, 6), (2, 9), (0, 6), (0, 6), (0, 6), (0, 6), (0, 6), (4, 2), (0, 96), (0, 12), (0, 7), (2, 9), (0, 6), (0, 6), (0, 6), (0, 6), (0, 6), (2, 9), (0, 6), (0, 6), (0, 6), (0, 6), (0, 6), (2, 9), (0, 6), (0, 6), (0, 6), (0, 6), (0, 6), (2, 9), (0, 6), (0, 6), (0, 6), (0, 6), (0, 6), (2, 9), (0, 6), (0, 6), (0, 6), (0, 6), (0, 6), (2, 9), (0, 6), (0, 6), (0, 6), (0, 6), (0, 6), (2, 9), (0, 6), (0, 6), (0, 6), (0, 6), (0, 6), (2, 9), (0, 6), (0, 6), (0, 6), (0, 6), (0, 6), (6, 35), (0, 7), (0, 7), (0, 7), (0, 7), (0, 7), (0, 7), (0, 96), (0, 49), (0, 49), (0, 196), (0, 37), (0, 37), (0, 296), (0, 37), (0, 7), (0, 12), (0, 20)]
/-- what lies at a position: (0, n) an int array, (1, n) a row of Hills, (2 + c, n) an object of class c -/
def zcl (cn a : Nat) : Nat × Nat := if a ≤ cn then (match a with | 0 => (9, 0) | b + 1 => zSH.getD b (9, 0)) else (9, 0)
def zlk : List (Nat × Nat × Nat) → Nat → Nat → Nat
  | [], _, _ => 0
  | q :: r, b, i => if q.1 = b ∧ q.2.1 = i then q.2.2 else zlk r b i
def zrv (v : Nat) : Value := match v with | 0 => .null | n + 1 => .ref (n + 1)
def zup (I : Nat → Nat → Int32) (a j : Nat) (v : Int32) : Nat → Nat → Int32 := fun b i => if b = a ∧ i = j then v else I b i
def zclr (I : Nat → Nat → Int32) (a : Nat) : Nat → Nat → Int32 := fun b i => if b = a then 0 else I b i
def zin (i : Int32) (n : Nat) : Bool := decide (¬ i < 0) && decide (i.toNatClampNeg < n)
def zkl (ls : zL) (i : Nat) : zL := match i with
  | 0 => ls
  | j + 1 => match ls[j]? with
    | some (some v) => if v.category = 2 then ls.set j none else ls
    | _ => ls
def zput1 (ls : zL) (i : Nat) (v : Value) : zL := (zkl ls i).set i (some v)
def zput2 (ls : zL) (i : Nat) (v : Value) : zL := ((zkl ls i).set i (some v)).set (i + 1) none
def zla (as : List Value) : zL := as.flatMap fun v => if v.category = 2 then [some v, none] else [some v]
def zini (k : zM) (as : List Value) : zL := zla as ++ List.replicate (zml k - (zla as).length) none
def zcat (st : List Value) : Nat := (st.map fun v => v.category).sum
/-- a field by its index in a class's pool: class, slot, kind (0 int, 1 boolean, 2 reference, 3 the moving reference) -/
def zfdT : List (Nat × Nat × Nat × Nat × Nat) := [(0, 9, 0, 0, 2), (0, 15, 0, 1, 2), (0, 18, 0, 2, 2), (0, 21, 0, 3, 2), (0, 24, 0, 4, 2), (0, 27, 0, 5, 0), (0, 31, 0, 6, 0), (0, 34, 0, 7, 0), (0, 37, 0, 8, 0), (1, 11, 1, 0, 2), (1, 17, 1, 1, 0), (1, 21, 1, 2, 0), (2, 9, 2, 0, 2), (2, 15, 2, 1, 0), (2, 67, 0, 5, 0), (3, 10, 3, 0, 2), (3, 16, 3, 1, 2), (3, 19, 3, 2, 2), (3, 23, 3, 3, 2), (3, 26, 3, 4, 1), (3, 33, 3, 5, 2), (3, 40, 3, 6, 2), (3, 44, 3, 7, 2), (3, 48, 3, 8, 0), (3, 52, 3, 9, 2), (3, 59, 2, 1, 0), (3, 112, 0, 5, 0), (3, 146, 1, 1, 0), (3, 174, 0, 8, 0), (3, 245, 0, 7, 0), (3, 266, 0, 6, 0), (4, 7, 4, 1, 2), (4, 13, 4, 2, 2), (4, 16, 4, 3, 2), (4, 19, 4, 4, 2), (4, 22, 4, 5, 2), (4, 25, 4, 8, 2), (4, 28, 4, 11, 2), (4, 31, 4, 16, 2), (4, 34, 4, 17, 2), (4, 37, 4, 18, 2), (4, 40, 4, 19, 2), (4, 43, 4, 20, 2), (4, 46, 4, 25, 2), (4, 49, 4, 26, 2), (4, 52, 4, 28, 2), (4, 55, 4, 31, 2), (4, 58, 4, 33, 2), (4, 61, 4, 7, 0), (4, 65, 4, 0, 0), (4, 100, 4, 9, 0), (4, 107, 4, 6, 0), (4, 110, 4, 10, 0), (4, 126, 4, 12, 0), (4, 129, 4, 13, 0), (4, 132, 4, 14, 1), (4, 147, 4, 15, 0), (4, 177, 4, 27, 0), (4, 180, 4, 23, 1), (4, 183, 4, 24, 3), (4, 186, 4, 22, 0), (4, 196, 4, 21, 1), (4, 225, 4, 30, 0), (4, 228, 4, 29, 0), (4, 237, 4, 32, 0), (4, 266, 4, 34, 0)]
def zfd0 : List (Nat × Nat × Nat × Nat × Nat) → Nat → Nat → Nat × Nat × Nat
  | [], _, _ => (9, 0, 7)
  | q :: r, o, ix => if q.1 = o ∧ q.2.1 = ix then q.2.2 else zfd0 r o ix
def zfd (o ix : Nat) : Nat × Nat × Nat := zfd0 zfdT o ix
def zcoT : List (Nat × Nat × Int32) := [(6, 265, 1431655765), (6, 266, 858993459), (6, 267, 252645135), (3, 272, 1103515245), (3, 273, 2147483647), (3, 274, 65536), (4, 269, 1103515245), (4, 270, 2147483647), (4, 271, 65536)]
def zclT : List (Nat × Nat × Int64) := [(3, 223, 4000000000000000000), (4, 140, 48), (4, 142, 57), (4, 160, 60), (4, 78, 5), (4, 199, 6), (4, 76, 35), (4, 207, 3), (4, 257, 4000000000000000000), (4, 275, 11), (4, 277, 16)]
def zco0 {α : Type} : List (Nat × Nat × α) → Nat → Nat → Option α
  | [], _, _ => none
  | q :: r, o, ix => if q.1 = o ∧ q.2.1 = ix then some q.2.2 else zco0 r o ix
/-- new, anewarray: the class by its index -/
def zknT : List (Nat × Nat × Nat) := [(5, 7, 3), (3, 7, 0), (3, 30, 1), (1, 9, 0), (3, 37, 2), (5, 10, 4)]
/-- what is built in: 1 Object.<init>, 2 Math.min, 3 Math.abs -/
def zbiT : List (Nat × Nat × Nat) := [(3, 1, 1), (0, 3, 1), (1, 3, 1), (2, 3, 1), (0, 103, 2), (1, 33, 2), (0, 65, 3), (4, 1, 1)]
def zNf : Nat → Nat := fun c => match c with | 0 => 9 | 1 => 3 | 2 => 2 | 3 => 10 | 4 => 35 | _ => 0
def m_X_init : zM := (3, ⟨"SeenFromBehind", "<init>", "()V"⟩, prog_1_method_1_code, 2, none, 0, 2, 0)
def m_H_init : zM := (0, ⟨"SeenFromBehind$Hill", "<init>", "()V"⟩, prog_2_method_1_code, 1, none, 0, 0, 0)
def m_P_init : zM := (1, ⟨"SeenFromBehind$Past", "<init>", "()V"⟩, prog_3_method_1_code, 2, none, 0, 1, 0)
def m_T_init : zM := (2, ⟨"SeenFromBehind$Text", "<init>", "()V"⟩, prog_4_method_1_code, 1, none, 0, 0, 0)
def m_X_feed : zM := (3, ⟨"SeenFromBehind", "feed", "(I)I"⟩, prog_1_method_2_code, 2, (some .int), 1, 2, 0)
def m_X_refuse : zM := (3, ⟨"SeenFromBehind", "refuse", "(I)I"⟩, prog_1_method_44_code, 2, (some .int), 1, 1, 0)
def m_X_at : zM := (3, ⟨"SeenFromBehind", "at", "([II)I"⟩, prog_1_method_57_code, 2, (some .int), 2, 0, 0)
def m_X_put : zM := (3, ⟨"SeenFromBehind", "put", "([III)V"⟩, prog_1_method_58_code, 3, none, 3, 0, 0)
def m_T_append : zM := (2, ⟨"SeenFromBehind$Text", "append", "(I)I"⟩, prog_4_method_2_code, 2, (some .int), 1, 1, 0)
def m_X_hill : zM := (3, ⟨"SeenFromBehind", "hill", "()I"⟩, prog_1_method_3_code, 4, (some .int), 0, 7, 0)
def m_T_wrongPlace : zM := (2, ⟨"SeenFromBehind$Text", "wrongPlace", "()I"⟩, prog_4_method_4_code, 5, (some .int), 0, 1, 0)
def m_T_digitsBehind : zM := (2, ⟨"SeenFromBehind$Text", "digitsBehind", "(I)I"⟩, prog_4_method_5_code, 1, (some .int), 1, 0, 0)
def m_H_become : zM := (0, ⟨"SeenFromBehind$Hill", "become", "(LSeenFromBehind$Hill;)V"⟩, prog_2_method_2_code, 3, none, 1, 1, 0)
def m_T_beginsStatement : zM := (2, ⟨"SeenFromBehind$Text", "beginsStatement", "(I)Z"⟩, prog_4_method_6_code, 2, (some .boolean), 1, 1, 0)
def m_T_comesTo : zM := (2, ⟨"SeenFromBehind$Text", "comesTo", "(LSeenFromBehind$Hill;I)Z"⟩, prog_4_method_7_code, 5, (some .boolean), 2, 6, 0)
def m_T_digit : zM := (2, ⟨"SeenFromBehind$Text", "digit", "(I)I"⟩, prog_4_method_11_code, 2, (some .int), 1, 1, 0)
def m_T_number : zM := (2, ⟨"SeenFromBehind$Text", "number", "(I)I"⟩, prog_4_method_12_code, 2, (some .int), 1, 2, 0)
def m_T_joins : zM := (2, ⟨"SeenFromBehind$Text", "joins", "(LSeenFromBehind$Hill;IIII)Z"⟩, prog_4_method_8_code, 5, (some .boolean), 5, 2, 0)
def m_X_isKind : zM := (3, ⟨"SeenFromBehind", "isKind", "(I)Z"⟩, prog_1_method_60_code, 1, (some .boolean), 1, 0, 0)
def m_X_isCell : zM := (3, ⟨"SeenFromBehind", "isCell", "(I)Z"⟩, prog_1_method_61_code, 1, (some .boolean), 1, 0, 0)
def m_X_isWay : zM := (3, ⟨"SeenFromBehind", "isWay", "(I)Z"⟩, prog_1_method_62_code, 1, (some .boolean), 1, 0, 0)
def m_H_isFree : zM := (0, ⟨"SeenFromBehind$Hill", "isFree", "(I)Z"⟩, prog_2_method_19_code, 2, (some .boolean), 1, 1, 0)
def m_H_whoIsAt : zM := (0, ⟨"SeenFromBehind$Hill", "whoIsAt", "(I)I"⟩, prog_2_method_18_code, 3, (some .int), 1, 0, 0)
def m_H_join : zM := (0, ⟨"SeenFromBehind$Hill", "join", "(IIII)I"⟩, prog_2_method_16_code, 6, (some .int), 4, 1, 0)
def m_T_facesSo : zM := (2, ⟨"SeenFromBehind$Text", "facesSo", "(LSeenFromBehind$Hill;II)Z"⟩, prog_4_method_9_code, 3, (some .boolean), 3, 2, 0)
def m_H_has : zM := (0, ⟨"SeenFromBehind$Hill", "has", "(I)Z"⟩, prog_2_method_3_code, 2, (some .boolean), 1, 0, 0)
def m_H_face : zM := (0, ⟨"SeenFromBehind$Hill", "face", "(II)V"⟩, prog_2_method_15_code, 3, none, 2, 1, 0)
def m_T_changesCell : zM := (2, ⟨"SeenFromBehind$Text", "changesCell", "(LSeenFromBehind$Hill;II)Z"⟩, prog_4_method_10_code, 3, (some .boolean), 3, 2, 0)
def m_H_place : zM := (0, ⟨"SeenFromBehind$Hill", "place", "(II)V"⟩, prog_2_method_14_code, 3, none, 2, 1, 0)
def m_H_hasRoomFor : zM := (0, ⟨"SeenFromBehind$Hill", "hasRoomFor", "(I)Z"⟩, prog_2_method_31_code, 2, (some .boolean), 1, 0, 0)
def m_H_pass : zM := (0, ⟨"SeenFromBehind$Hill", "pass", "(I)V"⟩, prog_2_method_32_code, 3, none, 1, 5, 0)
def m_H_nightWithout : zM := (0, ⟨"SeenFromBehind$Hill", "nightWithout", "(I)V"⟩, prog_2_method_33_code, 4, none, 1, 4, 0)
def m_H_inLens : zM := (0, ⟨"SeenFromBehind$Hill", "inLens", "(I)I"⟩, prog_2_method_24_code, 2, (some .int), 1, 2, 0)
def m_X_turned : zM := (3, ⟨"SeenFromBehind", "turned", "(II)I"⟩, prog_1_method_65_code, 2, (some .int), 2, 0, 0)
def m_H_depthOf : zM := (0, ⟨"SeenFromBehind$Hill", "depthOf", "(I)I"⟩, prog_2_method_11_code, 2, (some .int), 1, 1, 0)
def m_X_depth : zM := (3, ⟨"SeenFromBehind", "depth", "(II)I"⟩, prog_1_method_68_code, 4, (some .int), 2, 0, 0)
def m_H_nextTo : zM := (0, ⟨"SeenFromBehind$Hill", "nextTo", "(III)I"⟩, prog_2_method_22_code, 7, (some .int), 3, 1, 0)
def m_X_cellBeside : zM := (3, ⟨"SeenFromBehind", "cellBeside", "(II)I"⟩, prog_1_method_66_code, 3, (some .int), 2, 0, 0)
def m_X_bitOf : zM := (3, ⟨"SeenFromBehind", "bitOf", "(I)I"⟩, prog_1_method_59_code, 1, (some .int), 1, 0, 0)
def m_H_stirs : zM := (0, ⟨"SeenFromBehind$Hill", "stirs", "(II)Z"⟩, prog_2_method_34_code, 3, (some .boolean), 2, 3, 0)
def m_H_ahead : zM := (0, ⟨"SeenFromBehind$Hill", "ahead", "(I)I"⟩, prog_2_method_23_code, 2, (some .int), 1, 2, 0)
def m_H_reachOf : zM := (0, ⟨"SeenFromBehind$Hill", "reachOf", "(I)I"⟩, prog_2_method_10_code, 2, (some .int), 1, 1, 0)
def m_X_reach : zM := (3, ⟨"SeenFromBehind", "reach", "(II)I"⟩, prog_1_method_67_code, 4, (some .int), 2, 0, 0)
def m_H_turnsBy : zM := (0, ⟨"SeenFromBehind$Hill", "turnsBy", "(II)Z"⟩, prog_2_method_35_code, 3, (some .boolean), 2, 1, 0)
def m_H_stepsTo : zM := (0, ⟨"SeenFromBehind$Hill", "stepsTo", "(II)Z"⟩, prog_2_method_36_code, 3, (some .boolean), 2, 2, 0)
def m_T_forget : zM := (2, ⟨"SeenFromBehind$Text", "forget", "()V"⟩, prog_4_method_3_code, 1, none, 0, 0, 0)
def m_P_forget : zM := (1, ⟨"SeenFromBehind$Past", "forget", "()V"⟩, prog_3_method_2_code, 1, none, 0, 0, 0)
def m_X_personOf : zM := (3, ⟨"SeenFromBehind", "personOf", "(II)I"⟩, prog_1_method_4_code, 3, (some .int), 2, 2, 0)
def m_H_kindOf : zM := (0, ⟨"SeenFromBehind$Hill", "kindOf", "(I)I"⟩, prog_2_method_5_code, 2, (some .int), 1, 1, 0)
def m_H_figureOf : zM := (0, ⟨"SeenFromBehind$Hill", "figureOf", "(I)I"⟩, prog_2_method_6_code, 2, (some .int), 1, 1, 0)
def m_H_cellOf : zM := (0, ⟨"SeenFromBehind$Hill", "cellOf", "(I)I"⟩, prog_2_method_7_code, 2, (some .int), 1, 1, 0)
def m_H_facesOf : zM := (0, ⟨"SeenFromBehind$Hill", "facesOf", "(I)I"⟩, prog_2_method_8_code, 2, (some .int), 1, 1, 0)
def m_H_startsOf : zM := (0, ⟨"SeenFromBehind$Hill", "startsOf", "(I)I"⟩, prog_2_method_9_code, 2, (some .int), 1, 1, 0)
def m_X_person : zM := (3, ⟨"SeenFromBehind", "person", "(IIII)I"⟩, prog_1_method_5_code, 5, (some .int), 4, 2, 0)
def m_X_turns : zM := (3, ⟨"SeenFromBehind", "turns", "(II)I"⟩, prog_1_method_6_code, 4, (some .int), 2, 3, 0)
def m_P_keep : zM := (1, ⟨"SeenFromBehind$Past", "keep", "(LSeenFromBehind$Hill;)V"⟩, prog_3_method_3_code, 3, none, 1, 2, 0)
def m_P_placeAt : zM := (1, ⟨"SeenFromBehind$Past", "placeAt", "(I)LSeenFromBehind$Hill;"⟩, prog_3_method_5_code, 2, (some (.object "SeenFromBehind$Hill")), 1, 0, 0)
def m_X_stands : zM := (3, ⟨"SeenFromBehind", "stands", "(II)I"⟩, prog_1_method_7_code, 4, (some .int), 2, 3, 0)
def m_X_nights : zM := (3, ⟨"SeenFromBehind", "nights", "(I)I"⟩, prog_1_method_8_code, 2, (some .int), 1, 6, 0)
def m_H_startsTogether : zM := (0, ⟨"SeenFromBehind$Hill", "startsTogether", "()I"⟩, prog_2_method_17_code, 3, (some .int), 0, 1, 0)
def m_X_back : zM := (3, ⟨"SeenFromBehind", "back", "()I"⟩, prog_1_method_9_code, 1, (some .int), 0, 2, 0)
def m_P_giveBack : zM := (1, ⟨"SeenFromBehind$Past", "giveBack", "()LSeenFromBehind$Hill;"⟩, prog_3_method_4_code, 1, (some (.object "SeenFromBehind$Hill")), 0, 1, 0)
def m_X_behind : zM := (3, ⟨"SeenFromBehind", "behind", "(III)I"⟩, prog_1_method_10_code, 5, (some .int), 3, 6, 0)
def m_X_wrongNights : zM := (3, ⟨"SeenFromBehind", "wrongNights", "(II)I"⟩, prog_1_method_46_code, 3, (some .int), 2, 1, 0)
def m_X_lookAhead : zM := (3, ⟨"SeenFromBehind", "lookAhead", "(I)V"⟩, prog_1_method_48_code, 3, none, 1, 5, 0)
def m_H_watchers : zM := (0, ⟨"SeenFromBehind$Hill", "watchers", "(I)I"⟩, prog_2_method_25_code, 4, (some .int), 1, 3, 0)
def m_X_allStarts : zM := (3, ⟨"SeenFromBehind", "allStarts", "(I)I"⟩, prog_1_method_11_code, 2, (some .int), 1, 6, 0)
def m_X_first : zM := (3, ⟨"SeenFromBehind", "first", "(II)I"⟩, prog_1_method_12_code, 6, (some .int), 2, 5, 0)
def m_X_wrongWhat : zM := (3, ⟨"SeenFromBehind", "wrongWhat", "(III)I"⟩, prog_1_method_45_code, 4, (some .int), 3, 1, 0)
def m_X_still : zM := (3, ⟨"SeenFromBehind", "still", "()I"⟩, prog_1_method_13_code, 2, (some .int), 0, 5, 0)
def m_X_unseen : zM := (3, ⟨"SeenFromBehind", "unseen", "()I"⟩, prog_1_method_14_code, 3, (some .int), 0, 3, 0)
def m_H_everybody : zM := (0, ⟨"SeenFromBehind$Hill", "everybody", "()I"⟩, prog_2_method_4_code, 1, (some .int), 0, 1, 0)
def m_X_chain : zM := (3, ⟨"SeenFromBehind", "chain", "(II)I"⟩, prog_1_method_15_code, 4, (some .int), 2, 4, 0)
def m_H_chainOf : zM := (0, ⟨"SeenFromBehind$Hill", "chainOf", "(II)I"⟩, prog_2_method_30_code, 8, (some .int), 2, 3, 0)
def m_X_deepest : zM := (3, ⟨"SeenFromBehind", "deepest", "()I"⟩, prog_1_method_16_code, 5, (some .int), 0, 4, 0)
def m_X_knows : zM := (3, ⟨"SeenFromBehind", "knows", "(II)I"⟩, prog_1_method_17_code, 5, (some .int), 2, 4, 0)
def m_H_seenBy : zM := (0, ⟨"SeenFromBehind$Hill", "seenBy", "(I)I"⟩, prog_2_method_27_code, 4, (some .int), 1, 3, 0)
def m_X_safe : zM := (3, ⟨"SeenFromBehind", "safe", "(II)I"⟩, prog_1_method_18_code, 7, (some .int), 2, 3, 0)
def m_X_alone : zM := (3, ⟨"SeenFromBehind", "alone", "(II)I"⟩, prog_1_method_19_code, 7, (some .int), 2, 4, 0)
def m_X_turnAll : zM := (3, ⟨"SeenFromBehind", "turnAll", "()I"⟩, prog_1_method_20_code, 3, (some .int), 0, 3, 0)
def m_H_seesAllWays : zM := (0, ⟨"SeenFromBehind$Hill", "seesAllWays", "(I)Z"⟩, prog_2_method_28_code, 3, (some .boolean), 1, 2, 0)
def m_X_post : zM := (3, ⟨"SeenFromBehind", "post", "(I)I"⟩, prog_1_method_21_code, 5, (some .int), 1, 4, 0)
def m_H_facesToSeeUnseen : zM := (0, ⟨"SeenFromBehind$Hill", "facesToSeeUnseen", "(I)I"⟩, prog_2_method_29_code, 3, (some .int), 1, 3, 0)
def m_X_which : zM := (3, ⟨"SeenFromBehind", "which", "(II)I"⟩, prog_1_method_22_code, 7, (some .int), 2, 6, 0)
def m_H_beOfKind : zM := (0, ⟨"SeenFromBehind$Hill", "beOfKind", "(II)V"⟩, prog_2_method_12_code, 3, none, 2, 1, 0)
def m_H_beOfFigure : zM := (0, ⟨"SeenFromBehind$Hill", "beOfFigure", "(II)V"⟩, prog_2_method_13_code, 3, none, 2, 1, 0)
def m_X_turnsAsTold : zM := (3, ⟨"SeenFromBehind", "turnsAsTold", "(I)Z"⟩, prog_1_method_49_code, 3, (some .boolean), 1, 5, 0)
def m_X_bestStep : zM := (3, ⟨"SeenFromBehind", "bestStep", "(I)I"⟩, prog_1_method_23_code, 7, (some .int), 1, 4, 0)
def m_H_cellOfStep : zM := (0, ⟨"SeenFromBehind$Hill", "cellOfStep", "(II)I"⟩, prog_2_method_21_code, 4, (some .int), 2, 2, 0)
def m_J_bitCount : zM := (6, ⟨"java/lang/Integer", "bitCount", "(I)I"⟩, prog_7_method_49_code, 1, (some .int), 1, 0, 0)
def m_X_two : zM := (3, ⟨"SeenFromBehind", "two", "(II)I"⟩, prog_1_method_24_code, 7, (some .int), 2, 4, 0)
def m_X_areTwo : zM := (3, ⟨"SeenFromBehind", "areTwo", "(II)Z"⟩, prog_1_method_47_code, 3, (some .boolean), 2, 1, 0)
def m_X_stepsSeenByFaces : zM := (3, ⟨"SeenFromBehind", "stepsSeenByFaces", "(II)I"⟩, prog_1_method_50_code, 8, (some .int), 2, 3, 0)
def m_X_pairBit : zM := (3, ⟨"SeenFromBehind", "pairBit", "(II)I"⟩, prog_1_method_52_code, 2, (some .int), 2, 1, 0)
def m_X_neitherHasBetter : zM := (3, ⟨"SeenFromBehind", "neitherHasBetter", "(IIII)Z"⟩, prog_1_method_51_code, 5, (some .boolean), 4, 2, 0)
def m_X_slept : zM := (3, ⟨"SeenFromBehind", "slept", "(IIIII)J"⟩, prog_1_method_25_code, 12, (some .long), 5, 14, 0)
def m_X_waysToFace : zM := (3, ⟨"SeenFromBehind", "waysToFace", "(LSeenFromBehind$Hill;[LSeenFromBehind$Hill;IIII)J"⟩, prog_1_method_53_code, 10, (some .long), 6, 5, 1)
def m_X_commonDivisor : zM := (3, ⟨"SeenFromBehind", "commonDivisor", "(JJ)J"⟩, prog_1_method_54_code, 11, (some .long), 2, 0, 0)
def m_X_busiest : zM := (3, ⟨"SeenFromBehind", "busiest", "(I)I"⟩, prog_1_method_26_code, 6, (some .int), 1, 4, 0)
def m_X_twos : zM := (3, ⟨"SeenFromBehind", "twos", "(I)I"⟩, prog_1_method_27_code, 6, (some .int), 1, 3, 0)
def m_X_nearest : zM := (3, ⟨"SeenFromBehind", "nearest", "(I)I"⟩, prog_1_method_28_code, 7, (some .int), 1, 2, 0)
def m_H_cellsApart : zM := (0, ⟨"SeenFromBehind$Hill", "cellsApart", "(II)I"⟩, prog_2_method_20_code, 5, (some .int), 2, 1, 0)
def m_X_rowOf : zM := (3, ⟨"SeenFromBehind", "rowOf", "(I)I"⟩, prog_1_method_63_code, 1, (some .int), 1, 0, 0)
def m_X_columnOf : zM := (3, ⟨"SeenFromBehind", "columnOf", "(I)I"⟩, prog_1_method_64_code, 1, (some .int), 1, 0, 0)
def m_X_lines : zM := (3, ⟨"SeenFromBehind", "lines", "()I"⟩, prog_1_method_29_code, 6, (some .int), 0, 2, 0)
def m_X_hidden : zM := (3, ⟨"SeenFromBehind", "hidden", "()I"⟩, prog_1_method_30_code, 3, (some .int), 0, 2, 0)
def m_X_longest : zM := (3, ⟨"SeenFromBehind", "longest", "()I"⟩, prog_1_method_31_code, 4, (some .int), 0, 2, 0)
def m_X_walks : zM := (3, ⟨"SeenFromBehind", "walks", "(III)I"⟩, prog_1_method_32_code, 10, (some .int), 3, 5, 0)
def m_X_meets : zM := (3, ⟨"SeenFromBehind", "meets", "(II)I"⟩, prog_1_method_33_code, 4, (some .int), 2, 5, 0)
def m_X_leave : zM := (3, ⟨"SeenFromBehind", "leave", "(II)I"⟩, prog_1_method_34_code, 3, (some .int), 2, 4, 0)
def m_X_most : zM := (3, ⟨"SeenFromBehind", "most", "(II)I"⟩, prog_1_method_35_code, 8, (some .int), 2, 4, 0)
def m_X_quiet : zM := (3, ⟨"SeenFromBehind", "quiet", "(I)I"⟩, prog_1_method_36_code, 3, (some .int), 1, 5, 0)
def m_X_row : zM := (3, ⟨"SeenFromBehind", "row", "(I)I"⟩, prog_1_method_37_code, 2, (some .int), 1, 2, 0)
def m_X_judge : zM := (3, ⟨"SeenFromBehind", "judge", "()I"⟩, prog_1_method_38_code, 4, (some .int), 0, 2, 0)
def m_X_clear : zM := (3, ⟨"SeenFromBehind", "clear", "()I"⟩, prog_1_method_39_code, 2, (some .int), 0, 0, 0)
def m_X_lots : zM := (3, ⟨"SeenFromBehind", "lots", "(III)I"⟩, prog_1_method_40_code, 9, (some .int), 3, 6, 0)
def m_X_nextSeed : zM := (3, ⟨"SeenFromBehind", "nextSeed", "(I)I"⟩, prog_1_method_55_code, 1, (some .int), 1, 0, 0)
def m_X_drawOf : zM := (3, ⟨"SeenFromBehind", "drawOf", "(II)I"⟩, prog_1_method_56_code, 2, (some .int), 2, 0, 0)
def m_H_howManySee : zM := (0, ⟨"SeenFromBehind$Hill", "howManySee", "(Z)I"⟩, prog_2_method_26_code, 5, (some .int), 1, 3, 0)
def m_X_image : zM := (3, ⟨"SeenFromBehind", "image", "()I"⟩, prog_1_method_41_code, 1, (some .int), 0, 2, 0)
def m_X_restore : zM := (3, ⟨"SeenFromBehind", "restore", "()I"⟩, prog_1_method_42_code, 1, (some .int), 0, 2, 0)
def m_X_count : zM := (3, ⟨"SeenFromBehind", "count", "(I)I"⟩, prog_1_method_43_code, 2, (some .int), 1, 4, 0)
def m_M_init : zM := (4, ⟨"SeenFromBehindModel", "<init>", "()V"⟩, prog_6_method_1_code, 1, none, 0, 0, 0)
def m_M_feed : zM := (4, ⟨"SeenFromBehindModel", "feed", "(I)I"⟩, prog_6_method_25_code, 2, (some .int), 1, 1, 0)
def m_M_refuse : zM := (4, ⟨"SeenFromBehindModel", "refuse", "(I)I"⟩, prog_6_method_4_code, 2, (some .int), 1, 0, 0)
def m_M_hill : zM := (4, ⟨"SeenFromBehindModel", "hill", "()I"⟩, prog_6_method_33_code, 2, (some .int), 0, 8, 0)
def m_M_readStatement : zM := (4, ⟨"SeenFromBehindModel", "readStatement", "()V"⟩, prog_6_method_30_code, 3, none, 0, 3, 0)
def m_M_here : zM := (4, ⟨"SeenFromBehindModel", "here", "()I"⟩, prog_6_method_26_code, 1, (some .int), 0, 0, 0)
def m_M_isLetter : zM := (4, ⟨"SeenFromBehindModel", "isLetter", "(I)Z"⟩, prog_6_method_28_code, 1, (some .boolean), 1, 0, 0)
def m_M_readNumbers : zM := (4, ⟨"SeenFromBehindModel", "readNumbers", "(II)V"⟩, prog_6_method_29_code, 3, none, 2, 2, 0)
def m_M_readDigits : zM := (4, ⟨"SeenFromBehindModel", "readDigits", "(I)I"⟩, prog_6_method_27_code, 4, (some .int), 1, 1, 0)
def m_M_in : zM := (4, ⟨"SeenFromBehindModel", "in", "(JJJ)Z"⟩, prog_6_method_3_code, 6, (some .boolean), 3, 0, 0)
def m_M_think : zM := (4, ⟨"SeenFromBehindModel", "think", "()V"⟩, prog_6_method_36_code, 1, none, 0, 2, 0)
def m_M_carryAll : zM := (4, ⟨"SeenFromBehindModel", "carryAll", "([IZ)V"⟩, prog_6_method_35_code, 4, none, 2, 1, 0)
def m_M_carry : zM := (4, ⟨"SeenFromBehindModel", "carry", "(I)I"⟩, prog_6_method_34_code, 2, (some .int), 1, 0, 0)
def m_M_comesTold : zM := (4, ⟨"SeenFromBehindModel", "comesTold", "(I)Z"⟩, prog_6_method_32_code, 7, (some .boolean), 1, 7, 0)
def m_M_oneIn : zM := (4, ⟨"SeenFromBehindModel", "oneIn", "(I)I"⟩, prog_6_method_15_code, 3, (some .int), 1, 0, 0)
def m_M_oneComes : zM := (4, ⟨"SeenFromBehindModel", "oneComes", "(IIII)V"⟩, prog_6_method_31_code, 5, none, 4, 0, 0)
def m_M_isOne : zM := (4, ⟨"SeenFromBehindModel", "isOne", "(I)Z"⟩, prog_6_method_5_code, 2, (some .boolean), 1, 1, 0)
def m_M_goNights : zM := (4, ⟨"SeenFromBehindModel", "goNights", "(I)V"⟩, prog_6_method_24_code, 3, none, 1, 6, 0)
def m_M_nightBy : zM := (4, ⟨"SeenFromBehindModel", "nightBy", "(I)V"⟩, prog_6_method_23_code, 4, none, 1, 5, 0)
def m_M_lensOf : zM := (4, ⟨"SeenFromBehindModel", "lensOf", "(I)I"⟩, prog_6_method_18_code, 2, (some .int), 1, 3, 0)
def m_M_depthOf : zM := (4, ⟨"SeenFromBehindModel", "depthOf", "(I)I"⟩, prog_6_method_14_code, 3, (some .int), 1, 0, 0)
def m_M_nextFrom : zM := (4, ⟨"SeenFromBehindModel", "nextFrom", "(III)I"⟩, prog_6_method_16_code, 7, (some .int), 3, 2, 0)
def m_M_straight : zM := (4, ⟨"SeenFromBehindModel", "straight", "(III)I"⟩, prog_6_method_12_code, 5, (some .int), 3, 1, 0)
def m_M_goesBy : zM := (4, ⟨"SeenFromBehindModel", "goesBy", "(II)V"⟩, prog_6_method_22_code, 3, none, 2, 4, 0)
def m_M_aheadOf : zM := (4, ⟨"SeenFromBehindModel", "aheadOf", "(I)I"⟩, prog_6_method_17_code, 2, (some .int), 1, 3, 0)
def m_M_reachOf : zM := (4, ⟨"SeenFromBehindModel", "reachOf", "(I)I"⟩, prog_6_method_13_code, 2, (some .int), 1, 0, 0)
def m_M_stepTo : zM := (4, ⟨"SeenFromBehindModel", "stepTo", "(II)V"⟩, prog_6_method_21_code, 4, none, 2, 2, 0)
def m_M_again : zM := (4, ⟨"SeenFromBehindModel", "again", "()V"⟩, prog_6_method_37_code, 1, none, 0, 2, 0)
def m_M_image : zM := (4, ⟨"SeenFromBehindModel", "image", "()I"⟩, prog_6_method_38_code, 1, (some .int), 0, 2, 0)
def m_M_restore : zM := (4, ⟨"SeenFromBehindModel", "restore", "()I"⟩, prog_6_method_39_code, 1, (some .int), 0, 2, 0)
def m_M_back : zM := (4, ⟨"SeenFromBehindModel", "back", "()I"⟩, prog_6_method_41_code, 2, (some .int), 0, 2, 0)
def m_M_personOf : zM := (4, ⟨"SeenFromBehindModel", "personOf", "(II)I"⟩, prog_6_method_42_code, 3, (some .int), 2, 2, 0)
def m_M_person : zM := (4, ⟨"SeenFromBehindModel", "person", "(IIII)I"⟩, prog_6_method_43_code, 6, (some .int), 4, 2, 0)
def m_M_wrongNumber : zM := (4, ⟨"SeenFromBehindModel", "wrongNumber", "(III)I"⟩, prog_6_method_8_code, 3, (some .int), 3, 0, 0)
def m_M_isCell : zM := (4, ⟨"SeenFromBehindModel", "isCell", "(I)Z"⟩, prog_6_method_7_code, 1, (some .boolean), 1, 1, 0)
def m_M_turns : zM := (4, ⟨"SeenFromBehindModel", "turns", "(II)I"⟩, prog_6_method_44_code, 4, (some .int), 2, 3, 0)
def m_M_keepTurn : zM := (4, ⟨"SeenFromBehindModel", "keepTurn", "()V"⟩, prog_6_method_40_code, 2, none, 0, 2, 0)
def m_M_stands : zM := (4, ⟨"SeenFromBehindModel", "stands", "(II)I"⟩, prog_6_method_45_code, 5, (some .int), 2, 3, 0)
def m_M_nights : zM := (4, ⟨"SeenFromBehindModel", "nights", "(I)I"⟩, prog_6_method_46_code, 3, (some .int), 1, 7, 0)
def m_M_allOfStarts : zM := (4, ⟨"SeenFromBehindModel", "allOfStarts", "()I"⟩, prog_6_method_20_code, 3, (some .int), 0, 0, 0)
def m_M_behind : zM := (4, ⟨"SeenFromBehindModel", "behind", "(III)I"⟩, prog_6_method_47_code, 6, (some .int), 3, 7, 0)
def m_M_wrongBit : zM := (4, ⟨"SeenFromBehindModel", "wrongBit", "(III)I"⟩, prog_6_method_9_code, 3, (some .int), 3, 1, 0)
def m_M_watchersOf : zM := (4, ⟨"SeenFromBehindModel", "watchersOf", "(I)I"⟩, prog_6_method_19_code, 4, (some .int), 1, 4, 0)
def m_M_allStarts : zM := (4, ⟨"SeenFromBehindModel", "allStarts", "(I)I"⟩, prog_6_method_48_code, 3, (some .int), 1, 7, 0)
def m_M_first : zM := (4, ⟨"SeenFromBehindModel", "first", "(II)I"⟩, prog_6_method_49_code, 7, (some .int), 2, 6, 0)
def m_M_still : zM := (4, ⟨"SeenFromBehindModel", "still", "()I"⟩, prog_6_method_50_code, 5, (some .int), 0, 6, 0)
def m_M_unseen : zM := (4, ⟨"SeenFromBehindModel", "unseen", "()I"⟩, prog_6_method_51_code, 3, (some .int), 0, 4, 0)
def m_M_chain : zM := (4, ⟨"SeenFromBehindModel", "chain", "(II)I"⟩, prog_6_method_53_code, 5, (some .int), 2, 5, 0)
def m_M_chainFrom : zM := (4, ⟨"SeenFromBehindModel", "chainFrom", "(I)I"⟩, prog_6_method_52_code, 4, (some .int), 1, 4, 0)
def m_M_hasBit : zM := (4, ⟨"SeenFromBehindModel", "hasBit", "(II)Z"⟩, prog_6_method_10_code, 2, (some .boolean), 2, 0, 0)
def m_M_onesOf : zM := (4, ⟨"SeenFromBehindModel", "onesOf", "(I)I"⟩, prog_6_method_11_code, 3, (some .int), 1, 0, 0)
def m_M_deepest : zM := (4, ⟨"SeenFromBehindModel", "deepest", "()I"⟩, prog_6_method_54_code, 5, (some .int), 0, 5, 0)
def m_M_knows : zM := (4, ⟨"SeenFromBehindModel", "knows", "(II)I"⟩, prog_6_method_55_code, 8, (some .int), 2, 4, 0)
def m_M_safe : zM := (4, ⟨"SeenFromBehindModel", "safe", "(II)I"⟩, prog_6_method_56_code, 9, (some .int), 2, 4, 0)
def m_M_alone : zM := (4, ⟨"SeenFromBehindModel", "alone", "(II)I"⟩, prog_6_method_57_code, 9, (some .int), 2, 5, 0)
def m_M_turnAll : zM := (4, ⟨"SeenFromBehindModel", "turnAll", "()I"⟩, prog_6_method_58_code, 5, (some .int), 0, 4, 0)
def m_M_post : zM := (4, ⟨"SeenFromBehindModel", "post", "(I)I"⟩, prog_6_method_59_code, 7, (some .int), 1, 5, 0)
def m_M_which : zM := (4, ⟨"SeenFromBehindModel", "which", "(II)I"⟩, prog_6_method_61_code, 6, (some .int), 2, 7, 0)
def m_M_isRow : zM := (4, ⟨"SeenFromBehindModel", "isRow", "(I)Z"⟩, prog_6_method_60_code, 4, (some .boolean), 1, 6, 0)
def m_M_bestStep : zM := (4, ⟨"SeenFromBehindModel", "bestStep", "(I)I"⟩, prog_6_method_63_code, 8, (some .int), 1, 5, 0)
def m_M_stepFrom : zM := (4, ⟨"SeenFromBehindModel", "stepFrom", "(II)I"⟩, prog_6_method_62_code, 4, (some .int), 2, 2, 0)
def m_M_two : zM := (4, ⟨"SeenFromBehindModel", "two", "(II)I"⟩, prog_6_method_65_code, 5, (some .int), 2, 4, 0)
def m_M_areTwo : zM := (4, ⟨"SeenFromBehindModel", "areTwo", "(II)Z"⟩, prog_6_method_6_code, 3, (some .boolean), 2, 2, 0)
def m_M_areResting : zM := (4, ⟨"SeenFromBehindModel", "areResting", "(I)Z"⟩, prog_6_method_64_code, 7, (some .boolean), 1, 0, 0)
def m_M_slept : zM := (4, ⟨"SeenFromBehindModel", "slept", "(IIIII)J"⟩, prog_6_method_68_code, 15, (some .long), 5, 6, 0)
def m_M_partOf : zM := (4, ⟨"SeenFromBehindModel", "partOf", "(JJI)J"⟩, prog_6_method_67_code, 7, (some .long), 3, 1, 0)
def m_M_divisor : zM := (4, ⟨"SeenFromBehindModel", "divisor", "(JJ)J"⟩, prog_6_method_66_code, 10, (some .long), 2, 0, 0)
def m_M_busiest : zM := (4, ⟨"SeenFromBehindModel", "busiest", "(I)I"⟩, prog_6_method_69_code, 6, (some .int), 1, 5, 0)
def m_M_twos : zM := (4, ⟨"SeenFromBehindModel", "twos", "(I)I"⟩, prog_6_method_70_code, 7, (some .int), 1, 4, 0)
def m_M_nearest : zM := (4, ⟨"SeenFromBehindModel", "nearest", "(I)I"⟩, prog_6_method_72_code, 8, (some .int), 1, 1, 0)
def m_M_apart : zM := (4, ⟨"SeenFromBehindModel", "apart", "(II)I"⟩, prog_6_method_71_code, 4, (some .int), 2, 0, 0)
def m_M_lines : zM := (4, ⟨"SeenFromBehindModel", "lines", "()I"⟩, prog_6_method_73_code, 6, (some .int), 0, 0, 0)
def m_M_hidden : zM := (4, ⟨"SeenFromBehindModel", "hidden", "()I"⟩, prog_6_method_74_code, 4, (some .int), 0, 3, 0)
def m_M_longest : zM := (4, ⟨"SeenFromBehindModel", "longest", "()I"⟩, prog_6_method_75_code, 3, (some .int), 0, 1, 0)
def m_M_walks : zM := (4, ⟨"SeenFromBehindModel", "walks", "(III)I"⟩, prog_6_method_76_code, 9, (some .int), 3, 6, 0)
def m_M_meets : zM := (4, ⟨"SeenFromBehindModel", "meets", "(II)I"⟩, prog_6_method_77_code, 5, (some .int), 2, 6, 0)
def m_M_leave : zM := (4, ⟨"SeenFromBehindModel", "leave", "(II)I"⟩, prog_6_method_78_code, 6, (some .int), 2, 4, 0)
def m_M_most : zM := (4, ⟨"SeenFromBehindModel", "most", "(II)I"⟩, prog_6_method_79_code, 9, (some .int), 2, 5, 0)
def m_M_quiet : zM := (4, ⟨"SeenFromBehindModel", "quiet", "(I)I"⟩, prog_6_method_80_code, 4, (some .int), 1, 6, 0)
def m_M_row : zM := (4, ⟨"SeenFromBehindModel", "row", "(I)I"⟩, prog_6_method_81_code, 2, (some .int), 1, 1, 0)
def m_M_judge : zM := (4, ⟨"SeenFromBehindModel", "judge", "()I"⟩, prog_6_method_82_code, 3, (some .int), 0, 0, 0)
def m_M_clear : zM := (4, ⟨"SeenFromBehindModel", "clear", "()I"⟩, prog_6_method_83_code, 2, (some .int), 0, 0, 0)
def m_M_lots : zM := (4, ⟨"SeenFromBehindModel", "lots", "(III)I"⟩, prog_6_method_85_code, 9, (some .int), 3, 7, 0)
def m_M_drawBelow : zM := (4, ⟨"SeenFromBehindModel", "drawBelow", "(I)I"⟩, prog_6_method_84_code, 2, (some .int), 1, 0, 0)
def m_M_count : zM := (4, ⟨"SeenFromBehindModel", "count", "(I)I"⟩, prog_6_method_86_code, 4, (some .int), 1, 4, 0)
def m_L_law : zM := (5, ⟨"SeenFromBehindLaw", "law", "([I)Z"⟩, code, 4, (some .boolean), 1, 15, 0)
/-- methods by their index: kind (0 virtual, 1 virtual of a nest mate, 2 static, 3 static of a nest mate, 4 constructor, 5 constructor of a nest mate) -/
def zmtT : List (Nat × Nat × Nat × zM) := [(0, 40, 3, m_X_at), (0, 44, 3, m_X_put), (0, 48, 3, m_X_bitOf), (0, 52, 3, m_X_reach), (0, 56, 3, m_X_depth), (0, 59, 0, m_H_whoIsAt), (0, 62, 3, m_X_rowOf), (0, 70, 3, m_X_columnOf), (0, 73, 3, m_X_cellBeside), (0, 76, 0, m_H_isFree), (0, 80, 0, m_H_reachOf), (0, 83, 0, m_H_nextTo), (0, 87, 3, m_X_turned), (0, 90, 0, m_H_depthOf), (0, 93, 0, m_H_ahead), (0, 96, 0, m_H_inLens), (0, 99, 0, m_H_nightWithout), (0, 106, 0, m_H_stirs), (0, 110, 0, m_H_turnsBy), (0, 113, 0, m_H_stepsTo), (1, 24, 5, m_H_init), (1, 25, 0, m_P_placeAt), (1, 29, 1, m_H_become), (2, 19, 3, m_X_put), (2, 23, 3, m_X_at), (2, 27, 2, m_T_digitsBehind), (2, 31, 0, m_T_digit), (2, 34, 0, m_T_number), (2, 37, 2, m_T_joins), (2, 41, 2, m_T_facesSo), (2, 45, 2, m_T_changesCell), (2, 48, 1, m_H_hasRoomFor), (2, 54, 1, m_H_pass), (2, 58, 3, m_X_isKind), (2, 61, 3, m_X_isCell), (2, 64, 3, m_X_isWay), (2, 68, 1, m_H_isFree), (2, 71, 1, m_H_join), (2, 75, 1, m_H_has), (2, 78, 1, m_H_face), (2, 82, 1, m_H_place), (3, 9, 5, m_H_init), (3, 32, 5, m_P_init), (3, 39, 5, m_T_init), (3, 55, 0, m_X_refuse), (3, 62, 1, m_T_append), (3, 65, 1, m_T_wrongPlace), (3, 69, 1, m_H_become), (3, 73, 1, m_T_beginsStatement), (3, 77, 1, m_T_comesTo), (3, 81, 1, m_T_forget), (3, 84, 1, m_P_forget), (3, 85, 1, m_H_has), (3, 88, 1, m_H_kindOf), (3, 91, 1, m_H_figureOf), (3, 94, 1, m_H_cellOf), (3, 97, 1, m_H_facesOf), (3, 100, 1, m_H_startsOf), (3, 103, 1, m_H_reachOf), (3, 106, 1, m_H_depthOf), (3, 109, 2, m_X_isKind), (3, 113, 2, m_X_isCell), (3, 116, 2, m_X_isWay), (3, 119, 1, m_H_isFree), (3, 122, 1, m_H_join), (3, 126, 1, m_P_keep), (3, 129, 1, m_H_face), (3, 133, 1, m_H_place), (3, 136, 1, m_H_hasRoomFor), (3, 139, 1, m_H_pass), (3, 143, 1, m_H_startsTogether), (3, 147, 1, m_P_giveBack), (3, 151, 0, m_X_wrongNights), (3, 155, 0, m_X_lookAhead), (3, 158, 1, m_H_ahead), (3, 161, 1, m_H_inLens), (3, 164, 1, m_H_watchers), (3, 167, 0, m_X_wrongWhat), (3, 171, 1, m_H_nightWithout), (3, 177, 2, m_X_bitOf), (3, 180, 1, m_H_everybody), (3, 183, 1, m_H_chainOf), (3, 186, 1, m_H_seenBy), (3, 189, 1, m_H_seesAllWays), (3, 192, 1, m_H_facesToSeeUnseen), (3, 195, 1, m_H_beOfKind), (3, 198, 1, m_H_beOfFigure), (3, 201, 0, m_X_turnsAsTold), (3, 204, 1, m_H_cellOfStep), (3, 207, 2, m_J_bitCount), (3, 212, 0, m_X_areTwo), (3, 216, 0, m_X_stepsSeenByFaces), (3, 219, 2, m_X_neitherHasBetter), (3, 225, 2, m_X_waysToFace), (3, 229, 2, m_X_commonDivisor), (3, 233, 1, m_H_cellsApart), (3, 236, 2, m_X_rowOf), (3, 239, 2, m_X_columnOf), (3, 242, 1, m_H_nextTo), (3, 248, 2, m_X_put), (3, 252, 2, m_X_at), (3, 256, 2, m_X_nextSeed), (3, 259, 2, m_X_drawOf), (3, 262, 1, m_H_howManySee), (3, 269, 2, m_X_pairBit), (4, 68, 2, m_M_in), (4, 72, 0, m_M_isOne), (4, 80, 2, m_M_straight), (4, 84, 0, m_M_oneIn), (4, 88, 0, m_M_reachOf), (4, 91, 0, m_M_nextFrom), (4, 94, 0, m_M_depthOf), (4, 97, 0, m_M_aheadOf), (4, 103, 0, m_M_stepTo), (4, 113, 0, m_M_lensOf), (4, 116, 0, m_M_goesBy), (4, 119, 0, m_M_nightBy), (4, 123, 0, m_M_refuse), (4, 136, 0, m_M_here), (4, 144, 0, m_M_readDigits), (4, 150, 2, m_M_isLetter), (4, 153, 0, m_M_readNumbers), (4, 156, 0, m_M_oneComes), (4, 162, 0, m_M_goNights), (4, 165, 0, m_M_readStatement), (4, 168, 0, m_M_think), (4, 171, 0, m_M_comesTold), (4, 174, 0, m_M_again), (4, 189, 0, m_M_carry), (4, 192, 0, m_M_carryAll), (4, 201, 2, m_M_wrongNumber), (4, 204, 2, m_M_isCell), (4, 209, 0, m_M_keepTurn), (4, 212, 0, m_M_allOfStarts), (4, 215, 2, m_M_wrongBit), (4, 218, 0, m_M_watchersOf), (4, 221, 2, m_M_hasBit), (4, 231, 2, m_M_onesOf), (4, 234, 0, m_M_chainFrom), (4, 240, 0, m_M_isRow), (4, 243, 0, m_M_stepFrom), (4, 247, 0, m_M_areTwo), (4, 250, 0, m_M_areResting), (4, 253, 2, m_M_divisor), (4, 259, 2, m_M_partOf), (4, 263, 2, m_M_apart), (4, 272, 0, m_M_drawBelow), (5, 9, 4, m_X_init), (5, 12, 4, m_M_init), (5, 13, 0, m_X_feed), (5, 17, 0, m_M_feed), (5, 18, 0, m_X_hill), (5, 22, 0, m_M_hill), (5, 23, 0, m_X_personOf), (5, 27, 0, m_M_personOf), (5, 28, 0, m_X_person), (5, 32, 0, m_M_person), (5, 33, 0, m_X_turns), (5, 36, 0, m_M_turns), (5, 37, 0, m_X_stands), (5, 40, 0, m_M_stands), (5, 41, 0, m_X_nights), (5, 44, 0, m_M_nights), (5, 45, 0, m_X_back), (5, 48, 0, m_M_back), (5, 49, 0, m_X_behind), (5, 53, 0, m_M_behind), (5, 54, 0, m_X_allStarts), (5, 57, 0, m_M_allStarts), (5, 58, 0, m_X_first), (5, 61, 0, m_M_first), (5, 62, 0, m_X_still), (5, 65, 0, m_M_still), (5, 66, 0, m_X_unseen), (5, 69, 0, m_M_unseen), (5, 70, 0, m_X_chain), (5, 73, 0, m_M_chain), (5, 74, 0, m_X_deepest), (5, 77, 0, m_M_deepest), (5, 78, 0, m_X_knows), (5, 81, 0, m_M_knows), (5, 82, 0, m_X_safe), (5, 85, 0, m_M_safe), (5, 86, 0, m_X_alone), (5, 89, 0, m_M_alone), (5, 90, 0, m_X_turnAll), (5, 93, 0, m_M_turnAll), (5, 94, 0, m_X_post), (5, 97, 0, m_M_post), (5, 98, 0, m_X_which), (5, 101, 0, m_M_which), (5, 102, 0, m_X_bestStep), (5, 105, 0, m_M_bestStep), (5, 106, 0, m_X_two), (5, 109, 0, m_M_two), (5, 110, 0, m_X_slept), (5, 114, 0, m_M_slept), (5, 115, 0, m_X_busiest), (5, 118, 0, m_M_busiest), (5, 119, 0, m_X_twos), (5, 122, 0, m_M_twos), (5, 123, 0, m_X_nearest), (5, 126, 0, m_M_nearest), (5, 127, 0, m_X_lines), (5, 130, 0, m_M_lines), (5, 131, 0, m_X_hidden), (5, 134, 0, m_M_hidden), (5, 135, 0, m_X_longest), (5, 138, 0, m_M_longest), (5, 139, 0, m_X_walks), (5, 142, 0, m_M_walks), (5, 143, 0, m_X_meets), (5, 146, 0, m_M_meets), (5, 147, 0, m_X_leave), (5, 150, 0, m_M_leave), (5, 151, 0, m_X_most), (5, 154, 0, m_M_most), (5, 155, 0, m_X_quiet), (5, 158, 0, m_M_quiet), (5, 159, 0, m_X_row), (5, 162, 0, m_M_row), (5, 163, 0, m_X_judge), (5, 166, 0, m_M_judge), (5, 167, 0, m_X_clear), (5, 170, 0, m_M_clear), (5, 171, 0, m_X_lots), (5, 174, 0, m_M_lots), (5, 175, 0, m_X_image), (5, 178, 0, m_M_image), (5, 179, 0, m_X_restore), (5, 182, 0, m_M_restore), (5, 183, 0, m_X_count), (5, 186, 0, m_M_count)]
def zrk (m : zM) (as : List Value) : Nat := m.2.2.2.2.2.2.1 + (match m.2.2.2.2.2.2.2 with | 0 => 0 | _ + 1 => match as with | _ :: _ :: .int n :: _ => (if n < 1 ∨ 8 < n then 0 else n.toNatClampNeg) | _ => 0)
def zar : Instr → Int32 → Int32 → Option Int32
  | .iadd, x, y => some (x + y)
  | .isub, x, y => some (x - y)
  | .imul, x, y => some (x * y)
  | .idiv, x, y => if y = 0 then none else some (x / y)
  | .irem, x, y => if y = 0 then none else some (x - x / y * y)
  | .iand, x, y => some (x &&& y)
  | .ior, x, y => some (x ||| y)
  | .ixor, x, y => some (x ^^^ y)
  | .ishl, x, y => some (x <<< (y &&& 31))
  | .ishr, x, y => some (x >>> (y &&& 31))
  | .iushr, x, y => some ((x.toUInt32 >>> (y.toUInt32 &&& Int32.toUInt32 31)).toInt32)
  | _, _, _ => none
def zal : Instr → Int64 → Int64 → Option Int64
  | .ladd, x, y => some (x + y)
  | .lsub, x, y => some (x - y)
  | .lmul, x, y => some (x * y)
  | .ldiv, x, y => if y = 0 then none else some (x / y)
  | .lrem, x, y => if y = 0 then none else some (x - x / y * y)
  | _, _, _ => none
/-- a constant that is pushed, and the length -/
def zcst (o : Nat) : Instr → Option (Value × Nat)
  | .iconst n => some (.int (Int32.ofInt n), 1)
  | .bipush n => some (.int (Int8.ofInt n).toInt32, 2)
  | .sipush n => some (.int (Int16.ofInt n).toInt32, 3)
  | .lconst n => some (.long (Int64.ofNat (n : Nat)), 1)
  | .ldc_w ix => (zco0 zcoT o ix).map fun v => (.int v, 3)
  | .ldc2_w ix => (zco0 zclT o ix).map fun v => (.long v, 3)
  | _ => none
/-- a local that is read (its number, 1 int, 2 long, 3 reference) -/
def zldx : Instr → Option (Nat × Nat × Nat)
  | .iload i => some (i, 1, 2)
  | .iload_n i => some (i, 1, 1)
  | .lload i => some (i, 2, 2)
  | .lload_n i => some (i, 2, 1)
  | .aload i => some (i, 3, 2)
  | .aload_n i => some (i, 3, 1)
  | _ => none
def zstx : Instr → Option (Nat × Nat × Nat)
  | .istore i => some (i, 1, 2)
  | .istore_n i => some (i, 1, 1)
  | .lstore i => some (i, 2, 2)
  | .lstore_n i => some (i, 2, 1)
  | .astore i => some (i, 3, 2)
  | .astore_n i => some (i, 3, 1)
  | _ => none
def zty : Value → Nat
  | .int _ => 1
  | .long _ => 2
  | .ref _ => 3
  | _ => 0
def zic : Jvm.ClassFile.Cond → Int32 → Int32 → Bool
  | .eq, x, y => decide (x = y)
  | .ne, x, y => decide (¬ x = y)
  | .lt, x, y => decide (x < y)
  | .ge, x, y => decide (y ≤ x)
  | .gt, x, y => decide (y < x)
  | .le, x, y => decide (x ≤ y)
def ztg (pc : Nat) (off : Int) : Option Nat := if ((((pc : Int) + off).toNat : Nat) : Int) = (pc : Int) + off then some ((pc : Int) + off).toNat else none
def zgo (t : Option Nat) (ls : zL) (st : List Value) (p : zP) (h : zH) : Option zS := match t with | some q => some (q, ls, st, p, h) | none => none
def zsw (pc : Nat) (d lo hi : Int) (offs : Array Int) (x : Int32) : Option Nat := if x.toInt < lo ∨ hi < x.toInt then ztg pc d else (match offs[(x.toInt - lo).toNat]? with | some o => ztg pc o | none => none)
def zlw (pc : Nat) (d : Int) (ps : Array (Int × Int)) (x : Int32) : Option Nat := if (ps.toList.zip (ps.toList.drop 1)).all (fun (a, next) => a.1 < next.1) = true then ztg pc (Op.lookupswitch.offset ps.toList d x.toInt) else none
def zxGet (k : zM) (ix len : Nat) : zS → Option zS
  | (pc, ls, .ref a :: r, p, h) => if len = 3 ∧ zcl p.1 a = (2 + (zfd (zo k) ix).1, zNf (zfd (zo k) ix).1) then (match (zfd (zo k) ix).2.2 with
      | 0 => some (pc + 3, ls, .int (h.1 a (zfd (zo k) ix).2.1) :: r, p, h)
      | 1 => some (pc + 3, ls, .int (h.1 a (zfd (zo k) ix).2.1) :: r, p, h)
      | 2 => some (pc + 3, ls, zrv (zlk p.2 a (zfd (zo k) ix).2.1) :: r, p, h)
      | 3 => some (pc + 3, ls, zrv h.2 :: r, p, h)
      | _ => none) else none
  | _ => none
def zxPut (k : zM) (ix len : Nat) : zS → Option zS
  | (pc, ls, v :: .ref a :: r, p, h) => if len = 3 ∧ zcl p.1 a = (2 + (zfd (zo k) ix).1, zNf (zfd (zo k) ix).1) then (match (zfd (zo k) ix).2.2, v with
      | 0, .int x => some (pc + 3, ls, r, p, (zup h.1 a (zfd (zo k) ix).2.1 x, h.2))
      | 1, .int x => if x = 0 ∨ x = 1 then some (pc + 3, ls, r, p, (zup h.1 a (zfd (zo k) ix).2.1 x, h.2)) else none
      | 2, .ref (q + 1) => if (zn k).name = "<init>" ∧ (zfd (zo k) ix).1 = zo k then some (pc + 3, ls, r, (p.1, (a, (zfd (zo k) ix).2.1, q + 1) :: p.2), h) else none
      | 3, .ref (q + 1) => some (pc + 3, ls, r, p, (h.1, q + 1))
      | _, _ => none) else none
  | _ => none
def zxAld (X : zX) (len : Nat) : zS → Option zS
  | (pc, ls, .int x :: .ref 0 :: r, p, h) => if len = 1 ∧ zin x X.1 = true then some (pc + 1, ls, .int (X.2 x.toNatClampNeg) :: r, p, h) else none
  | (pc, ls, .int x :: .ref (b + 1) :: r, p, h) => if len = 1 ∧ (zcl p.1 (b + 1)).1 = 0 ∧ zin x (zcl p.1 (b + 1)).2 = true then some (pc + 1, ls, .int (h.1 (b + 1) x.toNatClampNeg) :: r, p, h) else none
  | _ => none
def zxAst (len : Nat) : zS → Option zS
  | (pc, ls, .int v :: .int x :: .ref a :: r, p, h) => if len = 1 ∧ (zcl p.1 a).1 = 0 ∧ zin x (zcl p.1 a).2 = true then some (pc + 1, ls, r, p, (zup h.1 a x.toNatClampNeg v, h.2)) else none
  | _ => none
def zxQld (len : Nat) : zS → Option zS
  | (pc, ls, .int x :: .ref a :: r, p, h) => if len = 1 ∧ (zcl p.1 a).1 = 1 ∧ zin x (zcl p.1 a).2 = true then some (pc + 1, ls, zrv (zlk p.2 a x.toNatClampNeg) :: r, p, h) else none
  | _ => none
def zxQst (len : Nat) : zS → Option zS
  | (pc, ls, .ref (q + 1) :: .int x :: .ref a :: r, p, h) => if len = 1 ∧ (zcl p.1 a).1 = 1 ∧ zin x (zcl p.1 a).2 = true ∧ zcl p.1 (q + 1) = (2, 9) then some (pc + 1, ls, r, (p.1, (a, x.toNatClampNeg, q + 1) :: p.2), h) else none
  | _ => none
def zxLen (X : zX) (len : Nat) : zS → Option zS
  | (pc, ls, .ref 0 :: r, p, h) => if len = 1 then some (pc + 1, ls, .int (Int32.ofNat X.1) :: r, p, h) else none
  | (pc, ls, .ref (b + 1) :: r, p, h) => if len = 1 ∧ ((zcl p.1 (b + 1)).1 = 0 ∨ (zcl p.1 (b + 1)).1 = 1) then some (pc + 1, ls, .int (Int32.ofNat (zcl p.1 (b + 1)).2) :: r, p, h) else none
  | _ => none
/-- nothing has been written yet of the cell that comes next -/
def zfrs (p : zP) : Bool := p.2.all fun q => decide (q.1 ≤ p.1)
def zxNew (k : zM) (ix len : Nat) : zS → Option zS
  | (pc, ls, r, p, h) => (match zco0 zknT (zo k) ix with
        | some c => if len = 3 ∧ zSH.getD p.1 (9, 0) = (2 + c, zNf c) ∧ c < 5 ∧ p.1 < 140 ∧ zfrs p = true ∧ h.2 = 0 then some (pc + 3, ls, .ref (p.1 + 1) :: r, (p.1 + 1, p.2), (zclr h.1 (p.1 + 1), h.2)) else none
        | none => none)
def zxNwa (len : Nat) : zS → Option zS
  | (pc, ls, .int n :: r, p, h) => if len = 2 ∧ ¬ n < 0 ∧ zSH.getD p.1 (9, 0) = (0, n.toNatClampNeg) ∧ p.1 < 140 ∧ zfrs p = true then some (pc + 2, ls, .ref (p.1 + 1) :: r, (p.1 + 1, p.2), (zclr h.1 (p.1 + 1), h.2)) else none
  | _ => none
def zxNwq (k : zM) (ix len : Nat) : zS → Option zS
  | (pc, ls, .int n :: r, p, h) => if len = 3 ∧ ¬ n < 0 ∧ zco0 zknT (zo k) ix = some 0 ∧ zSH.getD p.1 (9, 0) = (1, n.toNatClampNeg) ∧ p.1 < 140 ∧ zfrs p = true then some (pc + 3, ls, .ref (p.1 + 1) :: r, (p.1 + 1, p.2), (zclr h.1 (p.1 + 1), h.2)) else none
  | _ => none
def zxDup (len : Nat) : zS → Option zS
  | (pc, ls, v :: r, p, h) => if len = 1 ∧ v.category = 1 then some (pc + 1, ls, v :: v :: r, p, h) else none
  | _ => none
def zxDup2 (len : Nat) : zS → Option zS
  | (pc, ls, v :: u :: r, p, h) => if len = 1 ∧ v.category = 1 ∧ u.category = 1 then some (pc + 1, ls, v :: u :: v :: u :: r, p, h) else none
  | _ => none
def zxPop (len : Nat) : zS → Option zS
  | (pc, ls, v :: r, p, h) => if len = 1 ∧ v.category = 1 then some (pc + 1, ls, r, p, h) else none
  | _ => none
def zxNeg (len : Nat) : zS → Option zS
  | (pc, ls, .int x :: r, p, h) => if len = 1 then some (pc + 1, ls, .int (-x) :: r, p, h) else none
  | _ => none
def zxI2l (len : Nat) : zS → Option zS
  | (pc, ls, .int x :: r, p, h) => if len = 1 then some (pc + 1, ls, .long x.toInt64 :: r, p, h) else none
  | _ => none
def zxLcmp (len : Nat) : zS → Option zS
  | (pc, ls, .long y :: .long x :: r, p, h) => if len = 1 then some (pc + 1, ls, .int (lg_cmp x y) :: r, p, h) else none
  | _ => none
def zxInc (j : Nat) (n : Int) (len : Nat) : zS → Option zS
  | (pc, ls, r, p, h) => (match ls[j]? with | some (some (.int x)) => if len = 3 then some (pc + 3, zput1 ls j (.int (x + Int32.ofInt n)), r, p, h) else none | _ => none)
def zxNull (o : Int) (len : Nat) : zS → Option zS
  | (pc, ls, .ref _ :: r, p, h) => if len = 3 then some (pc + 3, ls, r, p, h) else none
  | (pc, ls, .null :: r, p, h) => if len = 3 then zgo (ztg pc o) ls r p h else none
  | _ => none
def zxNnull (o : Int) (len : Nat) : zS → Option zS
  | (pc, ls, .ref _ :: r, p, h) => if len = 3 then zgo (ztg pc o) ls r p h else none
  | (pc, ls, .null :: r, p, h) => if len = 3 then some (pc + 3, ls, r, p, h) else none
  | _ => none
def zxIf (c : Jvm.ClassFile.Cond) (o : Int) (len : Nat) : zS → Option zS
  | (pc, ls, .int x :: r, p, h) => if len = 3 then (match ztg pc o with | some t => some (if zic c x 0 = true then t else pc + 3, ls, r, p, h) | none => none) else none
  | _ => none
def zxIc (c : Jvm.ClassFile.Cond) (o : Int) (len : Nat) : zS → Option zS
  | (pc, ls, .int y :: .int x :: r, p, h) => if len = 3 then (match ztg pc o with | some t => some (if zic c x y = true then t else pc + 3, ls, r, p, h) | none => none) else none
  | _ => none
def zxTsw (d lo hi : Int) (offs : Array Int) : zS → Option zS
  | (pc, ls, .int x :: r, p, h) => zgo (zsw pc d lo hi offs x) ls r p h
  | _ => none
def zxLsw (d : Int) (ps : Array (Int × Int)) : zS → Option zS
  | (pc, ls, .int x :: r, p, h) => zgo (zlw pc d ps x) ls r p h
  | _ => none
def zxObj (k : zM) (ix len : Nat) : zS → Option zS
  | (pc, ls, .ref _ :: r, p, h) => if len = 3 ∧ zco0 zbiT (zo k) ix = some 1 ∧ zcat r = 0 ∧ ls.length = zml k then some (pc + 3, ls, r, p, h) else none
  | _ => none
def zxMath (k : zM) (ix len : Nat) : zS → Option zS
  | (pc, ls, .int y :: r, p, h) => (match zco0 zbiT (zo k) ix with
      | some 2 => (match r with
        | .int x :: r' => if len = 3 ∧ zcat r' ≤ 8 then some (pc + 3, ls, .int (if y < x then y else x) :: r', p, h) else none
        | _ => none)
      | some 3 => if len = 3 ∧ zcat r ≤ 8 then some (pc + 3, ls, .int (if 0 ≤ y then y else 0 - y) :: r, p, h) else none
      | _ => none)
  | _ => none
def zxAr (i : Instr) (len : Nat) : zS → Option zS
  | (pc, ls, .int y :: .int x :: r, p, h) => (match zar i x y with | some v => if len = 1 then some (pc + 1, ls, .int v :: r, p, h) else none | none => none)
  | (pc, ls, .long y :: .long x :: r, p, h) => (match zal i x y with | some v => if len = 1 then some (pc + 1, ls, .long v :: r, p, h) else none | none => none)
  | _ => none
def zxCst (v : Value) (n len : Nat) : zS → Option zS
  | (pc, ls, st, p, h) => if len = n then some (pc + n, ls, v :: st, p, h) else none
def zxLd (j ty n len : Nat) : zS → Option zS
  | (pc, ls, st, p, h) => (match ls[j]? with | some (some v) => if len = n ∧ zty v = ty then some (pc + n, ls, v :: st, p, h) else none | _ => none)
def zxSt (j ty n len : Nat) : zS → Option zS
  | (pc, ls, v :: r, p, h) => if len = n ∧ zty v = ty then (if ty = 2 then (if j + 1 < ls.length then some (pc + n, zput2 ls j v, r, p, h) else none) else (if j < ls.length then some (pc + n, zput1 ls j v, r, p, h) else none)) else none
  | _ => none
/-- an instruction with one follower -/
def zsim (X : zX) (k : zM) (i : Instr) (len : Nat) (s : zS) : Option zS :=
  match zcst (zo k) i with
  | some (v, n) => zxCst v n len s
  | none =>
  match zldx i with
  | some (j, ty, n) => zxLd j ty n len s
  | none =>
  match zstx i with
  | some (j, ty, n) => zxSt j ty n len s
  | none =>
  match i with
  | .getfield ix => zxGet k ix len s
  | .putfield ix => zxPut k ix len s
  | .iaload => zxAld X len s
  | .iastore => zxAst len s
  | .aaload => zxQld len s
  | .aastore => zxQst len s
  | .arraylength => zxLen X len s
  | .new ix => zxNew k ix len s
  | .newarray .int => zxNwa len s
  | .anewarray ix => zxNwq k ix len s
  | .dup => zxDup len s
  | .dup2 => zxDup2 len s
  | .pop => zxPop len s
  | .aconst_null => if len = 1 then some (s.1 + 1, s.2.1, .null :: s.2.2.1, s.2.2.2) else none
  | .ineg => zxNeg len s
  | .i2l => zxI2l len s
  | .lcmp => zxLcmp len s
  | .iinc j n => zxInc j n len s
  | .goto o => if len = 3 then zgo (ztg s.1 o) s.2.1 s.2.2.1 s.2.2.2.1 s.2.2.2.2 else none
  | .ifnull o => zxNull o len s
  | .ifnonnull o => zxNnull o len s
  | .ifCond c o => zxIf c o len s
  | .if_icmp c o => zxIc c o len s
  | .tableswitch d lo hi offs => zxTsw d lo hi offs s
  | .lookupswitch d ps => zxLsw d ps s
  | .invokespecial ix => zxObj k ix len s
  | .invokestatic ix => zxMath k ix len s
  | i => zxAr i len s
/-- an answer -/
def zrtn (k : zM) (i : Instr) (len : Nat) : zS → Option zR
  | (_, _, st, p, h) => if len = 1 then (match i, st, zrt k with
    | .ireturn, [.int v], some .int => some (some (.int v), p, h)
    | .ireturn, [.int v], some .boolean => if v = 0 ∨ v = 1 then some (some (.int v), p, h) else none
    | .lreturn, [.long v], some .long => some (some (.long v), p, h)
    | .areturn, [.ref a], some (.object _) => some (some (.ref a), p, h)
    | .return_, [], none => some (none, p, h)
    | _, _, _ => none) else none
/-- a call: the method, its arguments, the stack below -/
def zinv (k : zM) (i : Instr) (len : Nat) : zS → Option (zM × List Value × List Value × Bool)
  | (_, _, st, p, _) => if len = 3 then (match i with
    | .invokevirtual ix => (match zco0 zmtT (zo k) ix with
      | some (kd, m) => if kd ≤ 1 ∧ znp m ≤ st.length then (match st.drop (znp m) with
          | .ref a :: r => if zcl p.1 a = (2 + zo m, zNf (zo m)) ∧ zcat r ≤ 8 then some (m, .ref a :: (st.take (znp m)).reverse, r, false) else none
          | _ => none) else none
      | none => none)
    | .invokespecial ix => (match zco0 zmtT (zo k) ix with
      | some (kd, m) => if (kd = 4 ∨ kd = 5) ∧ znp m ≤ st.length then (match st.drop (znp m) with
          | .ref a :: r => if zcat r ≤ 8 then some (m, .ref a :: (st.take (znp m)).reverse, r, true) else none
          | _ => none) else none
      | none => none)
    | .invokestatic ix => (match zco0 zmtT (zo k) ix with
      | some (kd, m) => if (kd = 2 ∨ kd = 3) ∧ znp m ≤ st.length ∧ zcat (st.drop (znp m)) ≤ 8 then some (m, (st.take (znp m)).reverse, st.drop (znp m), false) else none
      | none => none)
    | _ => none) else none
/-- one step: a follower or an answer -/
def zst (X : zX) (r : Nat) (k : zM) (C : zM → List Value → zP → zH → Option zR) (s : zS) : Option (zS ⊕ zR) :=
  match decode (zb k) s.1 with
  | .error _ => none
  | .ok (i, len) => match zsim X k i len s with
    | some s' => if s.2.2.2.1.1 ≤ s'.2.2.2.1.1 then some (.inl s') else none
    | none => match zrtn k i len s with
      | some x => some (.inr x)
      | none => match zinv k i len s with
        | none => none
        | some (m, as, rest, t) => if zrk m as < r then (match C m as s.2.2.2.1 s.2.2.2.2 with
            | some (v, p', h') => if s.2.2.2.1.1 ≤ p'.1 ∧ (t = true ∨ p' = s.2.2.2.1) then some (.inl (s.1 + 3, s.2.1, v.toList ++ rest, p', h')) else none
            | none => none) else none
def zex (X : zX) (r : Nat) (k : zM) (C : zM → List Value → zP → zH → Option zR) : Nat → zS → Option zR
  | 0, _ => none
  | n + 1, s => match zst X r k C s with
    | none => none
    | some (.inl s') => zex X r k C n s'
    | some (.inr x) => some x
def zev (X : zX) : Nat → Nat → zM → List Value → zP → zH → Option zR
  | 0, _, _, _, _, _ => none
  | d + 1, n, m, as, p, h => if (zla as).length ≤ zml m then zex X (zrk m as) m (zev X d n) n (0, zini m as, [], p, h) else none
end
section
/-! what a run comes to: limits, and the equations of a run -/
def zPH : zP := (140, [(123, 33, 140), (123, 31, 139), (123, 28, 138), (123, 26, 137), (123, 25, 136), (123, 20, 135), (123, 19, 134), (123, 18, 133), (123, 17, 132), (123, 16, 131), (123, 11, 130), (123, 8, 129), (123, 5, 128), (123, 4, 127), (123, 3, 126), (123, 2, 125), (123, 1, 124), (14, 7, 117), (117, 4, 122), (117, 3, 121), (117, 2, 120), (117, 1, 119), (117, 0, 118), (14, 6, 111), (111, 4, 116), (111, 3, 115), (111, 2, 114), (111, 1, 113), (111, 0, 112), (14, 5, 105), (105, 4, 110), (105, 3, 109), (105, 2, 108), (105, 1, 107), (105, 0, 106), (14, 4, 99), (99, 4, 104), (99, 3, 103), (99, 2, 102), (99, 1, 101), (99, 0, 100), (14, 3, 93), (93, 4, 98), (93, 3, 97), (93, 2, 96), (93, 1, 95), (93, 0, 94), (14, 2, 87), (87, 4, 92), (87, 3, 91), (87, 2, 90), (87, 1, 89), (87, 0, 88), (14, 1, 81), (81, 4, 86), (81, 3, 85), (81, 2, 84), (81, 1, 83), (81, 0, 82), (14, 0, 75), (75, 4, 80), (75, 3, 79), (75, 2, 78), (75, 1, 77), (75, 0, 76), (1, 9, 74), (1, 7, 73), (1, 6, 71), (71, 0, 72), (1, 5, 21), (22, 7, 65), (65, 4, 70), (65, 3, 69), (65, 2, 68), (65, 1, 67), (65, 0, 66), (22, 6, 59), (59, 4, 64), (59, 3, 63), (59, 2, 62), (59, 1, 61), (59, 0, 60), (22, 5, 53), (53, 4, 58), (53, 3, 57), (53, 2, 56), (53, 1, 55), (53, 0, 54), (22, 4, 47), (47, 4, 52), (47, 3, 51), (47, 2, 50), (47, 1, 49), (47, 0, 48), (22, 3, 41), (41, 4, 46), (41, 3, 45), (41, 2, 44), (41, 1, 43), (41, 0, 42), (22, 2, 35), (35, 4, 40), (35, 3, 39), (35, 2, 38), (35, 1, 37), (35, 0, 36), (22, 1, 29), (29, 4, 34), (29, 3, 33), (29, 2, 32), (29, 1, 31), (29, 0, 30), (22, 0, 23), (23, 4, 28), (23, 3, 27), (23, 2, 26), (23, 1, 25), (23, 0, 24), (21, 0, 22), (1, 3, 15), (15, 4, 20), (15, 3, 19), (15, 2, 18), (15, 1, 17), (15, 0, 16), (1, 2, 14), (1, 1, 8), (8, 4, 13), (8, 3, 12), (8, 2, 11), (8, 1, 10), (8, 0, 9), (1, 0, 2), (2, 4, 7), (2, 3, 6), (2, 2, 5), (2, 1, 4), (2, 0, 3)])
theorem zst_mono {X : zX} {r : Nat} {k : zM} {C C' : zM → List Value → zP → zH → Option zR} (hC : ∀ m as p h x, C m as p h = some x → C' m as p h = some x) {s : zS} {y : zS ⊕ zR} : zst X r k C s = some y → zst X r k C' s = some y := by
  unfold zst
  cases decode (zb k) s.1 with
  | error e => exact id
  | ok q =>
    obtain ⟨i, len⟩ := q
    dsimp only
    cases zsim X k i len s with
    | some s' => exact id
    | none =>
      dsimp only
      cases zrtn k i len s with
      | some x => exact id
      | none =>
        dsimp only
        cases zinv k i len s with
        | none => exact id
        | some z =>
          obtain ⟨m, as, rest, t⟩ := z
          dsimp only
          by_cases hr : zrk m as < r
          · rw [if_pos hr, if_pos hr]
            cases hc : C m as s.2.2.2.1 s.2.2.2.2 with
            | none => intro h; cases h
            | some x => rw [hC _ _ _ _ _ hc]; exact id
          · rw [if_neg hr, if_neg hr]; exact id
theorem zex_mono {X : zX} {r : Nat} {k : zM} {C C' : zM → List Value → zP → zH → Option zR} (hC : ∀ m as p h x, C m as p h = some x → C' m as p h = some x) : ∀ (n n' : Nat) (s : zS) (x : zR), n ≤ n' → zex X r k C n s = some x → zex X r k C' n' s = some x := by
  intro n
  induction n with
  | zero => intro n' s x _ h; cases h
  | succ n ih =>
    intro n' s x hn h
    obtain ⟨m, rfl⟩ : ∃ m, n' = m + 1 := ⟨n' - 1, by omega⟩
    unfold zex at h ⊢
    cases hs : zst X r k C s with
    | none => rw [hs] at h; cases h
    | some y =>
      rw [hs] at h
      rw [zst_mono hC hs]
      cases y with
      | inl s' => exact ih m s' x (by omega) h
      | inr z => exact h
theorem zev_mono {X : zX} : ∀ (d n n' : Nat) (m : zM) (as : List Value) (p : zP) (h : zH) (x : zR), n ≤ n' → zev X d n m as p h = some x → zev X d n' m as p h = some x := by
  intro d
  induction d with
  | zero => intro n n' m as p h x _ q; cases q
  | succ d ih =>
    intro n n' m as p h x hn q
    unfold zev at q ⊢
    by_cases hl : (zla as).length ≤ zml m
    · rw [if_pos hl] at q ⊢
      exact zex_mono (fun m as p h x q => ih n n' m as p h x hn q) n n' _ x hn q
    · rw [if_neg hl] at q; cases q
theorem zst_congr {X : zX} {r : Nat} {k : zM} {C C' : zM → List Value → zP → zH → Option zR} (hC : ∀ m as p h, zrk m as < r → C m as p h = C' m as p h) (s : zS) : zst X r k C s = zst X r k C' s := by
  unfold zst
  cases decode (zb k) s.1 with
  | error e => rfl
  | ok q =>
    obtain ⟨i, len⟩ := q
    dsimp only
    cases zsim X k i len s with
    | some s' => rfl
    | none =>
      dsimp only
      cases zrtn k i len s with
      | some x => rfl
      | none =>
        dsimp only
        cases zinv k i len s with
        | none => rfl
        | some z =>
          obtain ⟨m, as, rest, t⟩ := z
          dsimp only
          by_cases hr : zrk m as < r
          · rw [if_pos hr, if_pos hr, hC _ _ _ _ hr]
          · rw [if_neg hr, if_neg hr]
theorem zex_congr {X : zX} {r : Nat} {k : zM} {C C' : zM → List Value → zP → zH → Option zR} (hC : ∀ m as p h, zrk m as < r → C m as p h = C' m as p h) : ∀ (n : Nat) (s : zS), zex X r k C n s = zex X r k C' n s := by
  intro n
  induction n with
  | zero => intro s; rfl
  | succ n ih =>
    intro s
    unfold zex
    rw [zst_congr hC s]
    cases zst X r k C' s with
    | none => rfl
    | some y =>
      cases y with
      | inl s' => exact ih s'
      | inr z => rfl
/-- the depth is enough: how much more doesn't matter -/
theorem zev_depth {X : zX} : ∀ (d d' n : Nat) (m : zM) (as : List Value) (p : zP) (h : zH), zrk m as < d → zrk m as < d' → zev X d n m as p h = zev X d' n m as p h := by
  intro d
  induction d with
  | zero => intro d' n m as p h h1; exact absurd h1 (Nat.not_lt_zero _)
  | succ d ih =>
    intro d' n m as p h h1 h2
    obtain ⟨e, rfl⟩ : ∃ e, d' = e + 1 := ⟨d' - 1, by omega⟩
    unfold zev
    rw [zex_congr (fun m' as' p' h' hr => ih e n m' as' p' h' (by omega) (by omega)) n _]
noncomputable def zlim {α : Type} (f : Nat → Option α) : Option α := @dite _ (∃ x, ∃ n, f n = some x) (Classical.propDecidable _) (fun h => some (Classical.choose h)) (fun _ => none)
theorem zlim_of {α : Type} {f : Nat → Option α} (hm : ∀ n n' x, n ≤ n' → f n = some x → f n' = some x) {n : Nat} {x : α} (h : f n = some x) : zlim f = some x := by
  unfold zlim
  have H : ∃ x, ∃ n, f n = some x := ⟨x, n, h⟩
  rw [dif_pos H]
  obtain ⟨n2, h2⟩ := Classical.choose_spec H
  have e1 := hm n (max n n2) x (Nat.le_max_left _ _) h
  have e2 := hm n2 (max n n2) _ (Nat.le_max_right _ _) h2
  rw [e1] at e2
  exact e2.symm
theorem zlim_some {α : Type} {f : Nat → Option α} {x : α} (h : zlim f = some x) : ∃ n, f n = some x := by
  unfold zlim at h
  by_cases H : ∃ x, ∃ n, f n = some x
  · rw [dif_pos H] at h
    obtain ⟨n2, h2⟩ := Classical.choose_spec H
    rw [Option.some.inj h] at h2
    exact ⟨n2, h2⟩
  · rw [dif_neg H] at h; cases h
theorem zlim_eq {α : Type} {f g : Nat → Option α} (hf : ∀ n n' x, n ≤ n' → f n = some x → f n' = some x) (hg : ∀ n n' x, n ≤ n' → g n = some x → g n' = some x) (h1 : ∀ n x, f n = some x → ∃ n', g n' = some x) (h2 : ∀ n x, g n = some x → ∃ n', f n' = some x) : zlim f = zlim g := by
  cases hz : zlim g with
  | none =>
    cases hy : zlim f with
    | none => rfl
    | some x =>
      obtain ⟨n, hn⟩ := zlim_some hy
      obtain ⟨n', hn'⟩ := h1 n x hn
      rw [zlim_of hg hn'] at hz
      cases hz
  | some x =>
    obtain ⟨n, hn⟩ := zlim_some hz
    obtain ⟨n', hn'⟩ := h2 n x hn
    exact zlim_of hf hn'
def zfr (o : Option zR) : Option (Option Value × zH) := match o with
  | some (v, p, h) => if p = zPH then some (v, h) else none
  | none => none
theorem zfr_some {o : Option zR} {x : Option Value × zH} (h : zfr o = some x) : o = some (x.1, zPH, x.2) := by
  unfold zfr at h
  cases o with
  | none => cases h
  | some y =>
    obtain ⟨v, p, q⟩ := y
    dsimp only at h
    by_cases hp : p = zPH
    · rw [if_pos hp] at h
      subst hp
      rw [← Option.some.inj h]
    · rw [if_neg hp] at h; cases h
theorem zfr_of {v : Option Value} {h : zH} : zfr (some (v, zPH, h)) = some (v, h) := by
  unfold zfr
  dsimp only
  rw [if_pos rfl]
theorem zfr_mono {o o' : Option zR} (h : ∀ x, o = some x → o' = some x) {y : Option Value × zH} (hy : zfr o = some y) : zfr o' = some y := by
  rw [h _ (zfr_some hy)]
  exact zfr_of
/-- a call, in the phase behind the constructors -/
noncomputable def zcf (X : zX) (m : zM) (as : List Value) (h : zH) : Option (Option Value × zH) := zlim fun n => zfr (zev X (zrk m as + 1) n m as zPH h)
noncomputable def zrn (X : zX) (r : Nat) (k : zM) (pc : Nat) (ls : zL) (st : List Value) (h : zH) : Option (Option Value × zH) := zlim fun n => zfr (zex X r k (zev X r n) n (pc, ls, st, zPH, h))
theorem zcf_mono {X : zX} {m : zM} {as : List Value} {h : zH} : ∀ n n' x, n ≤ n' → zfr (zev X (zrk m as + 1) n m as zPH h) = some x → zfr (zev X (zrk m as + 1) n' m as zPH h) = some x := fun n n' x hn q => zfr_mono (fun y hy => zev_mono _ n n' m as zPH h y hn hy) q
theorem zrn_mono {X : zX} {r : Nat} {k : zM} {s : zS} : ∀ n n' x, n ≤ n' → zfr (zex X r k (zev X r n) n s) = some x → zfr (zex X r k (zev X r n') n' s) = some x := fun n n' x hn q => zfr_mono (fun y hy => zex_mono (fun m as p h x q => zev_mono r n n' m as p h x hn q) n n' s y hn hy) q
/-- a call is a run from the method's beginning -/
theorem zcf_run {X : zX} {m : zM} {as : List Value} {h : zH} (hl : (zla as).length ≤ zml m) : zcf X m as h = zrn X (zrk m as) m 0 (zini m as) [] h := by
  have e : ∀ n, zev X (zrk m as + 1) n m as zPH h = zex X (zrk m as) m (zev X (zrk m as) n) n (0, zini m as, [], zPH, h) := fun n => if_pos hl
  exact zlim_eq zcf_mono zrn_mono (fun n x hx => ⟨n, by rw [← e]; exact hx⟩) (fun n x hx => ⟨n, by rw [e]; exact hx⟩)
theorem rn_s {X : zX} {r : Nat} {k : zM} {pc pc' len : Nat} {ls ls' : zL} {st st' : List Value} {h h' : zH} {i : Instr} (hd : decode (zb k) pc = .ok (i, len)) (hs : zsim X k i len (pc, ls, st, zPH, h) = some (pc', ls', st', zPH, h')) : zrn X r k pc ls st h = zrn X r k pc' ls' st' h' := by
  have hz : ∀ C, zst X r k C (pc, ls, st, zPH, h) = some (.inl (pc', ls', st', zPH, h')) := fun C => by
    unfold zst
    dsimp only
    rw [hd]
    dsimp only
    rw [hs]
    exact if_pos (Nat.le_refl _)
  refine zlim_eq zrn_mono zrn_mono (fun n x hx => ?_) (fun n x hx => ⟨n + 1, ?_⟩)
  · cases n with
    | zero => cases hx
    | succ n =>
      refine ⟨n + 1, ?_⟩
      unfold zex at hx
      rw [hz] at hx
      exact zfr_mono (fun y hy => zex_mono (fun _ _ _ _ _ q => q) n (n + 1) _ y (Nat.le_succ n) hy) hx
  · unfold zex
    rw [hz]
    exact zfr_mono (fun y hy => zex_mono (fun m as p h x q => zev_mono r n (n + 1) m as p h x (Nat.le_succ n) q) n n _ y (Nat.le_refl n) hy) hx
theorem rn_r {X : zX} {r : Nat} {k : zM} {pc len : Nat} {ls : zL} {st : List Value} {h : zH} {i : Instr} {v : Option Value} (hd : decode (zb k) pc = .ok (i, len)) (hs : zsim X k i len (pc, ls, st, zPH, h) = none) (hr : zrtn k i len (pc, ls, st, zPH, h) = some (v, zPH, h)) : zrn X r k pc ls st h = some (v, h) := by
  refine zlim_of (n := 1) zrn_mono ?_
  unfold zex zst
  dsimp only
  rw [hd]
  dsimp only
  rw [hs]
  dsimp only
  rw [hr]
  exact zfr_of
theorem rn_n {X : zX} {r : Nat} {k : zM} {pc len : Nat} {ls : zL} {st : List Value} {h : zH} {i : Instr} (hd : decode (zb k) pc = .ok (i, len)) (hs : zsim X k i len (pc, ls, st, zPH, h) = none) (hr : zrtn k i len (pc, ls, st, zPH, h) = none) (hi : zinv k i len (pc, ls, st, zPH, h) = none) : zrn X r k pc ls st h = none := by
  cases hz : zrn X r k pc ls st h with
  | none => rfl
  | some x =>
    obtain ⟨n, hn⟩ := zlim_some hz
    cases n with
    | zero => cases hn
    | succ n =>
      unfold zex zst at hn
      dsimp only at hn
      rw [hd] at hn
      dsimp only at hn
      rw [hs] at hn
      dsimp only at hn
      rw [hr] at hn
      dsimp only at hn
      rw [hi] at hn
      cases hn
def zbd (o : Option (Option Value × zH)) (f : Option Value → zH → Option (Option Value × zH)) : Option (Option Value × zH) := match o with | some (v, h) => f v h | none => none
theorem rn_c {X : zX} {r : Nat} {k : zM} {pc len : Nat} {ls : zL} {st rest : List Value} {h : zH} {i : Instr} {m : zM} {as : List Value} (hd : decode (zb k) pc = .ok (i, len)) (hs : zsim X k i len (pc, ls, st, zPH, h) = none) (hr : zrtn k i len (pc, ls, st, zPH, h) = none) (hi : zinv k i len (pc, ls, st, zPH, h) = some (m, as, rest, false)) (hk : zrk m as < r) : zrn X r k pc ls st h = zbd (zcf X m as h) fun v h' => zrn X r k (pc + 3) ls (v.toList ++ rest) h' := by
  have hz : ∀ C, zst X r k C (pc, ls, st, zPH, h) = match C m as zPH h with
      | some (v, p', h') => if zPH.1 ≤ p'.1 ∧ (false = true ∨ p' = zPH) then some (.inl (pc + 3, ls, v.toList ++ rest, p', h')) else none
      | none => none := fun C => by
    unfold zst
    dsimp only
    rw [hd]
    dsimp only
    rw [hs]
    dsimp only
    rw [hr]
    dsimp only
    rw [hi]
    dsimp only
    rw [if_pos hk]
    cases C m as zPH h <;> rfl
  have hzz : ∀ (C : zM → List Value → zP → zH → Option zR) (v : Option Value) (h' : zH), C m as zPH h = some (v, zPH, h') → zst X r k C (pc, ls, st, zPH, h) = some (.inl (pc + 3, ls, v.toList ++ rest, zPH, h')) := fun C v h' hc => by
    rw [hz, hc]
    dsimp only
    rw [if_pos ⟨Nat.le_refl _, Or.inr rfl⟩]
  have dep : ∀ n, zev X r n m as zPH h = zev X (zrk m as + 1) n m as zPH h := fun n => zev_depth r _ n m as zPH h hk (Nat.lt_succ_self _)
  cases hy : zrn X r k pc ls st h with
  | some x =>
    obtain ⟨n, hn⟩ := zlim_some hy
    cases n with
    | zero => cases hn
    | succ n =>
      have hn' := zfr_some hn
      unfold zex at hn'
      rw [hz] at hn'
      cases hc : zev X r (n + 1) m as zPH h with
      | none => rw [hc] at hn'; cases hn'
      | some z =>
        obtain ⟨v, p', h'⟩ := z
        rw [hc] at hn'
        dsimp only at hn'
        by_cases hg : zPH.1 ≤ p'.1 ∧ (false = true ∨ p' = zPH)
        · rw [if_pos hg] at hn'
          obtain ⟨-, hg | hg⟩ := hg
          · cases hg
          · subst hg
            dsimp only at hn'
            have e1 : zcf X m as h = some (v, h') := zlim_of (n := n + 1) zcf_mono (by rw [← dep, hc]; exact zfr_of)
            have e2 : zrn X r k (pc + 3) ls (v.toList ++ rest) h' = some x := zlim_of (n := n + 1) zrn_mono (by rw [zex_mono (fun _ _ _ _ _ q => q) n (n + 1) _ _ (Nat.le_succ n) hn']; exact zfr_of)
            rw [e1]
            exact e2.symm
        · rw [if_neg hg] at hn'; cases hn'
  | none =>
    cases hc : zcf X m as h with
    | none => rfl
    | some z =>
      obtain ⟨v, h'⟩ := z
      show none = zrn X r k (pc + 3) ls (v.toList ++ rest) h'
      cases hq : zrn X r k (pc + 3) ls (v.toList ++ rest) h' with
      | none => rfl
      | some x =>
        obtain ⟨n1, h1⟩ := zlim_some hc
        obtain ⟨n2, h2⟩ := zlim_some hq
        have h1' := zev_mono _ n1 (max n1 n2 + 1) m as zPH h _ (by omega) (zfr_some h1)
        have e : zrn X r k pc ls st h = some x := zlim_of (n := max n1 n2 + 1) zrn_mono (by
          unfold zex
          rw [hzz _ v h' (by rw [dep]; exact h1')]
          exact zfr_mono (fun y hy => zex_mono (fun m as p h x q => zev_mono r n2 (max n1 n2 + 1) m as p h x (by omega) q) n2 (max n1 n2) _ y (by omega) hy) h2)
        rw [hy] at e
        exact e
end
section
/-! what the tables say, for the evaluator's tables -/
def zgd : Jvm.Cond → Bool := fun w => (w.onTables && w.keeps) || (match w with | .arrayClass _ => true | _ => false)
def znst : Jvm.Cond → Bool
  | .fieldLinkNest .. => true
  | .methodLinkNest .. => true
  | .arrayOver (.object _) => true
  | _ => false
/-- the words that are needed: those that hold in a callee of themselves, and those that are carried -/
def zTs : List Jvm.Cond := lw_tbl.filter (fun w => zgd w || znst w)
theorem zTs_in {w : Jvm.Cond} (h : w ∈ lw_tbl) (g : (zgd w || znst w) = true) : w ∈ zTs := List.mem_filter.mpr ⟨h, g⟩
def zcn : Nat → String := fun c => match c with | 0 => "SeenFromBehind$Hill" | 1 => "SeenFromBehind$Past" | 2 => "SeenFromBehind$Text" | 3 => "SeenFromBehind" | 4 => "SeenFromBehindModel" | 5 => "SeenFromBehindLaw" | _ => "java/lang/Integer"
def zFT : List (List (String × String × String × Bool)) := [[("SeenFromBehind$Hill", "kinds", "[I", true), ("SeenFromBehind$Hill", "figures", "[I", true), ("SeenFromBehind$Hill", "cells", "[I", true), ("SeenFromBehind$Hill", "faces", "[I", true), ("SeenFromBehind$Hill", "starts", "[I", true), ("SeenFromBehind$Hill", "size", "I", false), ("SeenFromBehind$Hill", "night", "I", false), ("SeenFromBehind$Hill", "started", "I", false), ("SeenFromBehind$Hill", "stirred", "I", false)], [("SeenFromBehind$Past", "kept", "[LSeenFromBehind$Hill;", true), ("SeenFromBehind$Past", "size", "I", false), ("SeenFromBehind$Past", "nextPlace", "I", false)], [("SeenFromBehind$Text", "letters", "[I", true), ("SeenFromBehind$Text", "size", "I", false)], [("SeenFromBehind", "now", "LSeenFromBehind$Hill;", true), ("SeenFromBehind", "mind", "LSeenFromBehind$Hill;", true), ("SeenFromBehind", "deeper", "[LSeenFromBehind$Hill;", true), ("SeenFromBehind", "taken", "LSeenFromBehind$Hill;", true), ("SeenFromBehind", "imageTaken", "Z", false), ("SeenFromBehind", "past", "LSeenFromBehind$Past;", true), ("SeenFromBehind", "text", "LSeenFromBehind$Text;", true), ("SeenFromBehind", "told", "[I", true), ("SeenFromBehind", "toldSize", "I", false), ("SeenFromBehind", "refusals", "[I", true)], [("SeenFromBehindModel", "people", "I", false), ("SeenFromBehindModel", "kinds", "[I", true), ("SeenFromBehindModel", "figures", "[I", true), ("SeenFromBehindModel", "cells", "[I", true), ("SeenFromBehindModel", "faces0", "[I", true), ("SeenFromBehindModel", "starts0", "[I", true), ("SeenFromBehindModel", "night", "I", false), ("SeenFromBehindModel", "thrown", "I", false), ("SeenFromBehindModel", "refusals", "[I", true), ("SeenFromBehindModel", "stepped", "I", false), ("SeenFromBehindModel", "started", "I", false), ("SeenFromBehindModel", "letters", "[I", true), ("SeenFromBehindModel", "letterMany", "I", false), ("SeenFromBehindModel", "at", "I", false), ("SeenFromBehindModel", "isBad", "Z", false), ("SeenFromBehindModel", "statements", "I", false), ("SeenFromBehindModel", "placeIn", "[I", true), ("SeenFromBehindModel", "letterOf", "[I", true), ("SeenFromBehindModel", "told", "[I", true), ("SeenFromBehindModel", "kept", "[I", true), ("SeenFromBehindModel", "imaged", "[I", true), ("SeenFromBehindModel", "hasImage", "Z", false), ("SeenFromBehindModel", "place0", "I", false), ("SeenFromBehindModel", "isTaking", "Z", false), ("SeenFromBehindModel", "keptIn", "[I", false), ("SeenFromBehindModel", "turns0", "[I", true), ("SeenFromBehindModel", "turnOf", "[I", true), ("SeenFromBehindModel", "turned", "I", false), ("SeenFromBehindModel", "wasIn", "[I", true), ("SeenFromBehindModel", "chainRing", "I", false), ("SeenFromBehindModel", "chainLast", "I", false), ("SeenFromBehindModel", "row", "[I", true), ("SeenFromBehindModel", "rowMany", "I", false), ("SeenFromBehindModel", "seesBy", "[I", true), ("SeenFromBehindModel", "seed", "I", false)]]
def zTT : List (List FieldType) := [[.array .int, .array .int, .array .int, .array .int, .array .int, .int, .int, .int, .int], [.array (.object "SeenFromBehind$Hill"), .int, .int], [.array .int, .int], [.object "SeenFromBehind$Hill", .object "SeenFromBehind$Hill", .array (.object "SeenFromBehind$Hill"), .object "SeenFromBehind$Hill", .boolean, .object "SeenFromBehind$Past", .object "SeenFromBehind$Text", .array .int, .int, .array .int], [.int, .array .int, .array .int, .array .int, .array .int, .array .int, .int, .int, .array .int, .int, .int, .array .int, .int, .int, .boolean, .int, .array .int, .array .int, .array .int, .array .int, .array .int, .boolean, .int, .boolean, .array .int, .array .int, .array .int, .int, .array .int, .int, .int, .array .int, .int, .array .int, .int]]
def zKT : List (List Nat) := [[2, 2, 2, 2, 2, 0, 0, 0, 0], [2, 0, 0], [2, 0], [2, 2, 2, 2, 1, 2, 2, 2, 0, 2], [0, 2, 2, 2, 2, 2, 0, 0, 2, 0, 0, 2, 0, 0, 1, 0, 2, 2, 2, 2, 2, 1, 0, 1, 3, 2, 2, 0, 2, 0, 0, 2, 0, 2, 0]]
theorem zix1 (i : Nat) {w : Jvm.Cond} (h : tables_1_1[i]? = some w) (g : (zgd w || znst w) = true) : w ∈ zTs := zTs_in (List.mem_append_right _ (List.mem_append_left _ (List.mem_of_getElem? h))) g
theorem zixb (i : Nat) {w : Jvm.Cond} (h : tables_1_2[i]? = some w) (g : (zgd w || znst w) = true) : w ∈ zTs := zTs_in (List.mem_append_right _ (List.mem_append_right _ (List.mem_append_left _ (List.mem_of_getElem? h)))) g
theorem zixc (i : Nat) {w : Jvm.Cond} (h : tables_1_3[i]? = some w) (g : (zgd w || znst w) = true) : w ∈ zTs := zTs_in (List.mem_append_right _ (List.mem_append_right _ (List.mem_append_right _ (List.mem_append_left _ (List.mem_of_getElem? h))))) g
theorem zixd (i : Nat) {w : Jvm.Cond} (h : tables_1_4[i]? = some w) (g : (zgd w || znst w) = true) : w ∈ zTs := zTs_in (List.mem_append_right _ (List.mem_append_right _ (List.mem_append_right _ (List.mem_append_right _ (List.mem_append_left _ (List.mem_of_getElem? h)))))) g
theorem zixe (i : Nat) {w : Jvm.Cond} (h : tables_1_5[i]? = some w) (g : (zgd w || znst w) = true) : w ∈ zTs := zTs_in (List.mem_append_right _ (List.mem_append_right _ (List.mem_append_right _ (List.mem_append_right _ (List.mem_append_right _ (List.mem_of_getElem? h)))))) g
def zF (c : Nat) : u_T := fun k => (zFT.getD c []).getD k ("", "", "", false)
def zTy (c k : Nat) : FieldType := (zTT.getD c []).getD k .int
def zfk (c k : Nat) : Nat := (zKT.getD c []).getD k 7
def zcls : List vw_C := [(zcn 0, zF 0, 9), (zcn 1, zF 1, 3), (zcn 2, zF 2, 2), (zcn 3, zF 3, 10), (zcn 4, zF 4, 35)]
theorem zix (i : Nat) {w : Jvm.Cond} (h : tables_1[i]? = some w) (g : (zgd w || znst w) = true) : w ∈ zTs := zTs_in (List.mem_append_right _ (List.mem_of_getElem? h)) g
theorem zix2 (i : Nat) {w : Jvm.Cond} (h : (k2_sels lw_privs)[i]? = some w) (g : (zgd w || znst w) = true) : w ∈ zTs := zTs_in (List.mem_append_left _ (List.mem_of_getElem? h)) g
def zfdP (q : Nat × Nat × Nat × Nat × Nat) : Prop := q.2.2.1 < 5 ∧ q.2.2.2.1 < zNf q.2.2.1 ∧ zfk q.2.2.1 q.2.2.2.1 = q.2.2.2.2 ∧ (zF q.2.2.1 q.2.2.2.1).1 = zcn q.2.2.1 ∧ (Jvm.Cond.fieldLink (zcn q.1) q.2.1 (zcn q.2.2.1) (zF q.2.2.1 q.2.2.2.1).2.1 (zF q.2.2.1 q.2.2.2.1).2.2.1 ∈ zTs ∨ (q.2.2.2.2 = 0 ∧ Jvm.Cond.fieldLinkNest (zcn q.1) q.2.1 (zcn q.2.2.1) (zF q.2.2.1 q.2.2.2.1).2.1 (zF q.2.2.1 q.2.2.2.1).2.2.1 "SeenFromBehind" ∈ zTs))
set_option maxRecDepth 100000 in
theorem zfd_ok_0 : zfdP (0, 9, 0, 0, 2) := ⟨by decide, by decide, by decide, by decide +kernel, Or.inl (zix1 22 rfl rfl)⟩
set_option maxRecDepth 100000 in
theorem zfd_ok_1 : zfdP (0, 15, 0, 1, 2) := ⟨by decide, by decide, by decide, by decide +kernel, Or.inl (zix1 23 rfl rfl)⟩
set_option maxRecDepth 100000 in
theorem zfd_ok_2 : zfdP (0, 18, 0, 2, 2) := ⟨by decide, by decide, by decide, by decide +kernel, Or.inl (zix1 24 rfl rfl)⟩
set_option maxRecDepth 100000 in
theorem zfd_ok_3 : zfdP (0, 21, 0, 3, 2) := ⟨by decide, by decide, by decide, by decide +kernel, Or.inl (zix1 25 rfl rfl)⟩
set_option maxRecDepth 100000 in
theorem zfd_ok_4 : zfdP (0, 24, 0, 4, 2) := ⟨by decide, by decide, by decide, by decide +kernel, Or.inl (zix1 26 rfl rfl)⟩
set_option maxRecDepth 100000 in
theorem zfd_ok_5 : zfdP (0, 27, 0, 5, 0) := ⟨by decide, by decide, by decide, by decide +kernel, Or.inl (zix1 27 rfl rfl)⟩
set_option maxRecDepth 100000 in
theorem zfd_ok_6 : zfdP (0, 31, 0, 6, 0) := ⟨by decide, by decide, by decide, by decide +kernel, Or.inl (zix1 30 rfl rfl)⟩
set_option maxRecDepth 100000 in
theorem zfd_ok_7 : zfdP (0, 34, 0, 7, 0) := ⟨by decide, by decide, by decide, by decide +kernel, Or.inl (zix1 32 rfl rfl)⟩
set_option maxRecDepth 100000 in
theorem zfd_ok_8 : zfdP (0, 37, 0, 8, 0) := ⟨by decide, by decide, by decide, by decide +kernel, Or.inl (zix1 34 rfl rfl)⟩
set_option maxRecDepth 100000 in
theorem zfd_ok_9 : zfdP (1, 11, 1, 0, 2) := ⟨by decide, by decide, by decide, by decide +kernel, Or.inl (zix1 65 rfl rfl)⟩
set_option maxRecDepth 100000 in
theorem zfd_ok_10 : zfdP (1, 17, 1, 1, 0) := ⟨by decide, by decide, by decide, by decide +kernel, Or.inl (zix1 66 rfl rfl)⟩
set_option maxRecDepth 100000 in
theorem zfd_ok_11 : zfdP (1, 21, 1, 2, 0) := ⟨by decide, by decide, by decide, by decide +kernel, Or.inl (zix1 68 rfl rfl)⟩
set_option maxRecDepth 100000 in
theorem zfd_ok_12 : zfdP (2, 9, 2, 0, 2) := ⟨by decide, by decide, by decide, by decide +kernel, Or.inl (zix1 82 rfl rfl)⟩
set_option maxRecDepth 100000 in
theorem zfd_ok_13 : zfdP (2, 15, 2, 1, 0) := ⟨by decide, by decide, by decide, by decide +kernel, Or.inl (zix1 83 rfl rfl)⟩
set_option maxRecDepth 100000 in
theorem zfd_ok_14 : zfdP (2, 67, 0, 5, 0) := ⟨by decide, by decide, by decide, by decide +kernel, Or.inr ⟨by decide, zix1 29 rfl rfl⟩⟩
set_option maxRecDepth 100000 in
theorem zfd_ok_15 : zfdP (3, 10, 3, 0, 2) := ⟨by decide, by decide, by decide, by decide +kernel, Or.inl (zix1 90 rfl rfl)⟩
set_option maxRecDepth 100000 in
theorem zfd_ok_16 : zfdP (3, 16, 3, 1, 2) := ⟨by decide, by decide, by decide, by decide +kernel, Or.inl (zix1 91 rfl rfl)⟩
set_option maxRecDepth 100000 in
theorem zfd_ok_17 : zfdP (3, 19, 3, 2, 2) := ⟨by decide, by decide, by decide, by decide +kernel, Or.inl (zix1 92 rfl rfl)⟩
set_option maxRecDepth 100000 in
theorem zfd_ok_18 : zfdP (3, 23, 3, 3, 2) := ⟨by decide, by decide, by decide, by decide +kernel, Or.inl (zix1 93 rfl rfl)⟩
set_option maxRecDepth 100000 in
theorem zfd_ok_19 : zfdP (3, 26, 3, 4, 1) := ⟨by decide, by decide, by decide, by decide +kernel, Or.inl (zix1 94 rfl rfl)⟩
set_option maxRecDepth 100000 in
theorem zfd_ok_20 : zfdP (3, 33, 3, 5, 2) := ⟨by decide, by decide, by decide, by decide +kernel, Or.inl (zix1 95 rfl rfl)⟩
set_option maxRecDepth 100000 in
theorem zfd_ok_21 : zfdP (3, 40, 3, 6, 2) := ⟨by decide, by decide, by decide, by decide +kernel, Or.inl (zix1 96 rfl rfl)⟩
set_option maxRecDepth 100000 in
theorem zfd_ok_22 : zfdP (3, 44, 3, 7, 2) := ⟨by decide, by decide, by decide, by decide +kernel, Or.inl (zix1 97 rfl rfl)⟩
set_option maxRecDepth 100000 in
theorem zfd_ok_23 : zfdP (3, 48, 3, 8, 0) := ⟨by decide, by decide, by decide, by decide +kernel, Or.inl (zix1 98 rfl rfl)⟩
set_option maxRecDepth 100000 in
theorem zfd_ok_24 : zfdP (3, 52, 3, 9, 2) := ⟨by decide, by decide, by decide, by decide +kernel, Or.inl (zix1 99 rfl rfl)⟩
set_option maxRecDepth 100000 in
theorem zfd_ok_25 : zfdP (3, 59, 2, 1, 0) := ⟨by decide, by decide, by decide, by decide +kernel, Or.inr ⟨by decide, zix1 84 rfl rfl⟩⟩
set_option maxRecDepth 100000 in
theorem zfd_ok_26 : zfdP (3, 112, 0, 5, 0) := ⟨by decide, by decide, by decide, by decide +kernel, Or.inr ⟨by decide, zix1 28 rfl rfl⟩⟩
set_option maxRecDepth 100000 in
theorem zfd_ok_27 : zfdP (3, 146, 1, 1, 0) := ⟨by decide, by decide, by decide, by decide +kernel, Or.inr ⟨by decide, zix1 67 rfl rfl⟩⟩
set_option maxRecDepth 100000 in
theorem zfd_ok_28 : zfdP (3, 174, 0, 8, 0) := ⟨by decide, by decide, by decide, by decide +kernel, Or.inr ⟨by decide, zix1 35 rfl rfl⟩⟩
set_option maxRecDepth 100000 in
theorem zfd_ok_29 : zfdP (3, 245, 0, 7, 0) := ⟨by decide, by decide, by decide, by decide +kernel, Or.inr ⟨by decide, zix1 33 rfl rfl⟩⟩
set_option maxRecDepth 100000 in
theorem zfd_ok_30 : zfdP (3, 266, 0, 6, 0) := ⟨by decide, by decide, by decide, by decide +kernel, Or.inr ⟨by decide, zix1 31 rfl rfl⟩⟩
set_option maxRecDepth 100000 in
theorem zfd_ok_31 : zfdP (4, 7, 4, 1, 2) := ⟨by decide, by decide, by decide, by decide +kernel, Or.inl (zixc 136 rfl rfl)⟩
set_option maxRecDepth 100000 in
theorem zfd_ok_32 : zfdP (4, 13, 4, 2, 2) := ⟨by decide, by decide, by decide, by decide +kernel, Or.inl (zixc 137 rfl rfl)⟩
set_option maxRecDepth 100000 in
theorem zfd_ok_33 : zfdP (4, 16, 4, 3, 2) := ⟨by decide, by decide, by decide, by decide +kernel, Or.inl (zixc 138 rfl rfl)⟩
set_option maxRecDepth 100000 in
theorem zfd_ok_34 : zfdP (4, 19, 4, 4, 2) := ⟨by decide, by decide, by decide, by decide +kernel, Or.inl (zixc 139 rfl rfl)⟩
set_option maxRecDepth 100000 in
theorem zfd_ok_35 : zfdP (4, 22, 4, 5, 2) := ⟨by decide, by decide, by decide, by decide +kernel, Or.inl (zixc 140 rfl rfl)⟩
set_option maxRecDepth 100000 in
theorem zfd_ok_36 : zfdP (4, 25, 4, 8, 2) := ⟨by decide, by decide, by decide, by decide +kernel, Or.inl (zixc 143 rfl rfl)⟩
set_option maxRecDepth 100000 in
theorem zfd_ok_37 : zfdP (4, 28, 4, 11, 2) := ⟨by decide, by decide, by decide, by decide +kernel, Or.inl (zixc 146 rfl rfl)⟩
set_option maxRecDepth 100000 in
theorem zfd_ok_38 : zfdP (4, 31, 4, 16, 2) := ⟨by decide, by decide, by decide, by decide +kernel, Or.inl (zixc 151 rfl rfl)⟩
set_option maxRecDepth 100000 in
theorem zfd_ok_39 : zfdP (4, 34, 4, 17, 2) := ⟨by decide, by decide, by decide, by decide +kernel, Or.inl (zixc 152 rfl rfl)⟩
set_option maxRecDepth 100000 in
theorem zfd_ok_40 : zfdP (4, 37, 4, 18, 2) := ⟨by decide, by decide, by decide, by decide +kernel, Or.inl (zixc 153 rfl rfl)⟩
set_option maxRecDepth 100000 in
theorem zfd_ok_41 : zfdP (4, 40, 4, 19, 2) := ⟨by decide, by decide, by decide, by decide +kernel, Or.inl (zixc 154 rfl rfl)⟩
set_option maxRecDepth 100000 in
theorem zfd_ok_42 : zfdP (4, 43, 4, 20, 2) := ⟨by decide, by decide, by decide, by decide +kernel, Or.inl (zixc 155 rfl rfl)⟩
set_option maxRecDepth 100000 in
theorem zfd_ok_43 : zfdP (4, 46, 4, 25, 2) := ⟨by decide, by decide, by decide, by decide +kernel, Or.inl (zixc 160 rfl rfl)⟩
set_option maxRecDepth 100000 in
theorem zfd_ok_44 : zfdP (4, 49, 4, 26, 2) := ⟨by decide, by decide, by decide, by decide +kernel, Or.inl (zixc 161 rfl rfl)⟩
set_option maxRecDepth 100000 in
theorem zfd_ok_45 : zfdP (4, 52, 4, 28, 2) := ⟨by decide, by decide, by decide, by decide +kernel, Or.inl (zixc 163 rfl rfl)⟩
set_option maxRecDepth 100000 in
theorem zfd_ok_46 : zfdP (4, 55, 4, 31, 2) := ⟨by decide, by decide, by decide, by decide +kernel, Or.inl (zixc 166 rfl rfl)⟩
set_option maxRecDepth 100000 in
theorem zfd_ok_47 : zfdP (4, 58, 4, 33, 2) := ⟨by decide, by decide, by decide, by decide +kernel, Or.inl (zixc 168 rfl rfl)⟩
set_option maxRecDepth 100000 in
theorem zfd_ok_48 : zfdP (4, 61, 4, 7, 0) := ⟨by decide, by decide, by decide, by decide +kernel, Or.inl (zixc 142 rfl rfl)⟩
set_option maxRecDepth 100000 in
theorem zfd_ok_49 : zfdP (4, 65, 4, 0, 0) := ⟨by decide, by decide, by decide, by decide +kernel, Or.inl (zixc 135 rfl rfl)⟩
set_option maxRecDepth 100000 in
theorem zfd_ok_50 : zfdP (4, 100, 4, 9, 0) := ⟨by decide, by decide, by decide, by decide +kernel, Or.inl (zixc 144 rfl rfl)⟩
set_option maxRecDepth 100000 in
theorem zfd_ok_51 : zfdP (4, 107, 4, 6, 0) := ⟨by decide, by decide, by decide, by decide +kernel, Or.inl (zixc 141 rfl rfl)⟩
set_option maxRecDepth 100000 in
theorem zfd_ok_52 : zfdP (4, 110, 4, 10, 0) := ⟨by decide, by decide, by decide, by decide +kernel, Or.inl (zixc 145 rfl rfl)⟩
set_option maxRecDepth 100000 in
theorem zfd_ok_53 : zfdP (4, 126, 4, 12, 0) := ⟨by decide, by decide, by decide, by decide +kernel, Or.inl (zixc 147 rfl rfl)⟩
set_option maxRecDepth 100000 in
theorem zfd_ok_54 : zfdP (4, 129, 4, 13, 0) := ⟨by decide, by decide, by decide, by decide +kernel, Or.inl (zixc 148 rfl rfl)⟩
set_option maxRecDepth 100000 in
theorem zfd_ok_55 : zfdP (4, 132, 4, 14, 1) := ⟨by decide, by decide, by decide, by decide +kernel, Or.inl (zixc 149 rfl rfl)⟩
set_option maxRecDepth 100000 in
theorem zfd_ok_56 : zfdP (4, 147, 4, 15, 0) := ⟨by decide, by decide, by decide, by decide +kernel, Or.inl (zixc 150 rfl rfl)⟩
set_option maxRecDepth 100000 in
theorem zfd_ok_57 : zfdP (4, 177, 4, 27, 0) := ⟨by decide, by decide, by decide, by decide +kernel, Or.inl (zixc 162 rfl rfl)⟩
set_option maxRecDepth 100000 in
theorem zfd_ok_58 : zfdP (4, 180, 4, 23, 1) := ⟨by decide, by decide, by decide, by decide +kernel, Or.inl (zixc 158 rfl rfl)⟩
set_option maxRecDepth 100000 in
theorem zfd_ok_59 : zfdP (4, 183, 4, 24, 3) := ⟨by decide, by decide, by decide, by decide +kernel, Or.inl (zixc 159 rfl rfl)⟩
set_option maxRecDepth 100000 in
theorem zfd_ok_60 : zfdP (4, 186, 4, 22, 0) := ⟨by decide, by decide, by decide, by decide +kernel, Or.inl (zixc 157 rfl rfl)⟩
set_option maxRecDepth 100000 in
theorem zfd_ok_61 : zfdP (4, 196, 4, 21, 1) := ⟨by decide, by decide, by decide, by decide +kernel, Or.inl (zixc 156 rfl rfl)⟩
set_option maxRecDepth 100000 in
theorem zfd_ok_62 : zfdP (4, 225, 4, 30, 0) := ⟨by decide, by decide, by decide, by decide +kernel, Or.inl (zixc 165 rfl rfl)⟩
set_option maxRecDepth 100000 in
theorem zfd_ok_63 : zfdP (4, 228, 4, 29, 0) := ⟨by decide, by decide, by decide, by decide +kernel, Or.inl (zixc 164 rfl rfl)⟩
set_option maxRecDepth 100000 in
theorem zfd_ok_64 : zfdP (4, 237, 4, 32, 0) := ⟨by decide, by decide, by decide, by decide +kernel, Or.inl (zixc 167 rfl rfl)⟩
set_option maxRecDepth 100000 in
theorem zfd_ok_65 : zfdP (4, 266, 4, 34, 0) := ⟨by decide, by decide, by decide, by decide +kernel, Or.inl (zixc 169 rfl rfl)⟩
theorem zfd_ok_c0 : ∀ q ∈ [(0, 9, 0, 0, 2), (0, 15, 0, 1, 2), (0, 18, 0, 2, 2), (0, 21, 0, 3, 2), (0, 24, 0, 4, 2), (0, 27, 0, 5, 0), (0, 31, 0, 6, 0), (0, 34, 0, 7, 0), (0, 37, 0, 8, 0), (1, 11, 1, 0, 2), (1, 17, 1, 1, 0), (1, 21, 1, 2, 0), (2, 9, 2, 0, 2), (2, 15, 2, 1, 0), (2, 67, 0, 5, 0), (3, 10, 3, 0, 2), (3, 16, 3, 1, 2), (3, 19, 3, 2, 2), (3, 23, 3, 3, 2), (3, 26, 3, 4, 1)], zfdP q := List.forall_mem_cons.mpr ⟨zfd_ok_0, List.forall_mem_cons.mpr ⟨zfd_ok_1, List.forall_mem_cons.mpr ⟨zfd_ok_2, List.forall_mem_cons.mpr ⟨zfd_ok_3, List.forall_mem_cons.mpr ⟨zfd_ok_4, List.forall_mem_cons.mpr ⟨zfd_ok_5, List.forall_mem_cons.mpr ⟨zfd_ok_6, List.forall_mem_cons.mpr ⟨zfd_ok_7, List.forall_mem_cons.mpr ⟨zfd_ok_8, List.forall_mem_cons.mpr ⟨zfd_ok_9, List.forall_mem_cons.mpr ⟨zfd_ok_10, List.forall_mem_cons.mpr ⟨zfd_ok_11, List.forall_mem_cons.mpr ⟨zfd_ok_12, List.forall_mem_cons.mpr ⟨zfd_ok_13, List.forall_mem_cons.mpr ⟨zfd_ok_14, List.forall_mem_cons.mpr ⟨zfd_ok_15, List.forall_mem_cons.mpr ⟨zfd_ok_16, List.forall_mem_cons.mpr ⟨zfd_ok_17, List.forall_mem_cons.mpr ⟨zfd_ok_18, List.forall_mem_cons.mpr ⟨zfd_ok_19, fun _ h => absurd h List.not_mem_nil⟩⟩⟩⟩⟩⟩⟩⟩⟩⟩⟩⟩⟩⟩⟩⟩⟩⟩⟩⟩
theorem zfd_ok_c1 : ∀ q ∈ [(3, 33, 3, 5, 2), (3, 40, 3, 6, 2), (3, 44, 3, 7, 2), (3, 48, 3, 8, 0), (3, 52, 3, 9, 2), (3, 59, 2, 1, 0), (3, 112, 0, 5, 0), (3, 146, 1, 1, 0), (3, 174, 0, 8, 0), (3, 245, 0, 7, 0), (3, 266, 0, 6, 0), (4, 7, 4, 1, 2), (4, 13, 4, 2, 2), (4, 16, 4, 3, 2), (4, 19, 4, 4, 2), (4, 22, 4, 5, 2), (4, 25, 4, 8, 2), (4, 28, 4, 11, 2), (4, 31, 4, 16, 2), (4, 34, 4, 17, 2)], zfdP q := List.forall_mem_cons.mpr ⟨zfd_ok_20, List.forall_mem_cons.mpr ⟨zfd_ok_21, List.forall_mem_cons.mpr ⟨zfd_ok_22, List.forall_mem_cons.mpr ⟨zfd_ok_23, List.forall_mem_cons.mpr ⟨zfd_ok_24, List.forall_mem_cons.mpr ⟨zfd_ok_25, List.forall_mem_cons.mpr ⟨zfd_ok_26, List.forall_mem_cons.mpr ⟨zfd_ok_27, List.forall_mem_cons.mpr ⟨zfd_ok_28, List.forall_mem_cons.mpr ⟨zfd_ok_29, List.forall_mem_cons.mpr ⟨zfd_ok_30, List.forall_mem_cons.mpr ⟨zfd_ok_31, List.forall_mem_cons.mpr ⟨zfd_ok_32, List.forall_mem_cons.mpr ⟨zfd_ok_33, List.forall_mem_cons.mpr ⟨zfd_ok_34, List.forall_mem_cons.mpr ⟨zfd_ok_35, List.forall_mem_cons.mpr ⟨zfd_ok_36, List.forall_mem_cons.mpr ⟨zfd_ok_37, List.forall_mem_cons.mpr ⟨zfd_ok_38, List.forall_mem_cons.mpr ⟨zfd_ok_39, fun _ h => absurd h List.not_mem_nil⟩⟩⟩⟩⟩⟩⟩⟩⟩⟩⟩⟩⟩⟩⟩⟩⟩⟩⟩⟩
theorem zfd_ok_c2 : ∀ q ∈ [(4, 37, 4, 18, 2), (4, 40, 4, 19, 2), (4, 43, 4, 20, 2), (4, 46, 4, 25, 2), (4, 49, 4, 26, 2), (4, 52, 4, 28, 2), (4, 55, 4, 31, 2), (4, 58, 4, 33, 2), (4, 61, 4, 7, 0), (4, 65, 4, 0, 0), (4, 100, 4, 9, 0), (4, 107, 4, 6, 0), (4, 110, 4, 10, 0), (4, 126, 4, 12, 0), (4, 129, 4, 13, 0), (4, 132, 4, 14, 1), (4, 147, 4, 15, 0), (4, 177, 4, 27, 0), (4, 180, 4, 23, 1), (4, 183, 4, 24, 3)], zfdP q := List.forall_mem_cons.mpr ⟨zfd_ok_40, List.forall_mem_cons.mpr ⟨zfd_ok_41, List.forall_mem_cons.mpr ⟨zfd_ok_42, List.forall_mem_cons.mpr ⟨zfd_ok_43, List.forall_mem_cons.mpr ⟨zfd_ok_44, List.forall_mem_cons.mpr ⟨zfd_ok_45, List.forall_mem_cons.mpr ⟨zfd_ok_46, List.forall_mem_cons.mpr ⟨zfd_ok_47, List.forall_mem_cons.mpr ⟨zfd_ok_48, List.forall_mem_cons.mpr ⟨zfd_ok_49, List.forall_mem_cons.mpr ⟨zfd_ok_50, List.forall_mem_cons.mpr ⟨zfd_ok_51, List.forall_mem_cons.mpr ⟨zfd_ok_52, List.forall_mem_cons.mpr ⟨zfd_ok_53, List.forall_mem_cons.mpr ⟨zfd_ok_54, List.forall_mem_cons.mpr ⟨zfd_ok_55, List.forall_mem_cons.mpr ⟨zfd_ok_56, List.forall_mem_cons.mpr ⟨zfd_ok_57, List.forall_mem_cons.mpr ⟨zfd_ok_58, List.forall_mem_cons.mpr ⟨zfd_ok_59, fun _ h => absurd h List.not_mem_nil⟩⟩⟩⟩⟩⟩⟩⟩⟩⟩⟩⟩⟩⟩⟩⟩⟩⟩⟩⟩
theorem zfd_ok_c3 : ∀ q ∈ [(4, 186, 4, 22, 0), (4, 196, 4, 21, 1), (4, 225, 4, 30, 0), (4, 228, 4, 29, 0), (4, 237, 4, 32, 0), (4, 266, 4, 34, 0)], zfdP q := List.forall_mem_cons.mpr ⟨zfd_ok_60, List.forall_mem_cons.mpr ⟨zfd_ok_61, List.forall_mem_cons.mpr ⟨zfd_ok_62, List.forall_mem_cons.mpr ⟨zfd_ok_63, List.forall_mem_cons.mpr ⟨zfd_ok_64, List.forall_mem_cons.mpr ⟨zfd_ok_65, fun _ h => absurd h List.not_mem_nil⟩⟩⟩⟩⟩⟩
theorem zfd_ok : ∀ q ∈ zfdT, zfdP q := List.forall_mem_append.mpr ⟨zfd_ok_c0, List.forall_mem_append.mpr ⟨zfd_ok_c1, List.forall_mem_append.mpr ⟨zfd_ok_c2, zfd_ok_c3⟩⟩⟩
def zcoP (q : Nat × Nat × Int32) : Prop := Jvm.Cond.constant (zcn q.1) q.2.1 q.2.2 ∈ zTs
set_option maxRecDepth 100000 in
theorem zco_ok_0 : zcoP (6, 265, 1431655765) := zixb 236 rfl rfl
set_option maxRecDepth 100000 in
theorem zco_ok_1 : zcoP (6, 266, 858993459) := zixb 237 rfl rfl
set_option maxRecDepth 100000 in
theorem zco_ok_2 : zcoP (6, 267, 252645135) := zixb 238 rfl rfl
set_option maxRecDepth 100000 in
theorem zco_ok_3 : zcoP (3, 272, 1103515245) := zixc 107 rfl rfl
set_option maxRecDepth 100000 in
theorem zco_ok_4 : zcoP (3, 273, 2147483647) := zixc 111 rfl rfl
set_option maxRecDepth 100000 in
theorem zco_ok_5 : zcoP (3, 274, 65536) := zixc 112 rfl rfl
set_option maxRecDepth 100000 in
theorem zco_ok_6 : zcoP (4, 269, 1103515245) := zixe 90 rfl rfl
set_option maxRecDepth 100000 in
theorem zco_ok_7 : zcoP (4, 270, 2147483647) := zixe 91 rfl rfl
set_option maxRecDepth 100000 in
theorem zco_ok_8 : zcoP (4, 271, 65536) := zixe 92 rfl rfl
theorem zco_ok_c0 : ∀ q ∈ [(6, 265, 1431655765), (6, 266, 858993459), (6, 267, 252645135), (3, 272, 1103515245), (3, 273, 2147483647), (3, 274, 65536), (4, 269, 1103515245), (4, 270, 2147483647), (4, 271, 65536)], zcoP q := List.forall_mem_cons.mpr ⟨zco_ok_0, List.forall_mem_cons.mpr ⟨zco_ok_1, List.forall_mem_cons.mpr ⟨zco_ok_2, List.forall_mem_cons.mpr ⟨zco_ok_3, List.forall_mem_cons.mpr ⟨zco_ok_4, List.forall_mem_cons.mpr ⟨zco_ok_5, List.forall_mem_cons.mpr ⟨zco_ok_6, List.forall_mem_cons.mpr ⟨zco_ok_7, List.forall_mem_cons.mpr ⟨zco_ok_8, fun _ h => absurd h List.not_mem_nil⟩⟩⟩⟩⟩⟩⟩⟩⟩
theorem zco_ok : ∀ q ∈ zcoT, zcoP q := zco_ok_c0
def zclP (q : Nat × Nat × Int64) : Prop := Jvm.Cond.constantLong (zcn q.1) q.2.1 q.2.2 ∈ zTs
set_option maxRecDepth 100000 in
theorem zcl_ok_0 : zclP (3, 223, 4000000000000000000) := zixc 21 rfl rfl
set_option maxRecDepth 100000 in
theorem zcl_ok_1 : zclP (4, 140, 48) := zixd 32 rfl rfl
set_option maxRecDepth 100000 in
theorem zcl_ok_2 : zclP (4, 142, 57) := zixd 33 rfl rfl
set_option maxRecDepth 100000 in
theorem zcl_ok_3 : zclP (4, 160, 60) := zixd 65 rfl rfl
set_option maxRecDepth 100000 in
theorem zcl_ok_4 : zclP (4, 78, 5) := zixd 89 rfl rfl
set_option maxRecDepth 100000 in
theorem zcl_ok_5 : zclP (4, 199, 6) := zixd 126 rfl rfl
set_option maxRecDepth 100000 in
theorem zcl_ok_6 : zclP (4, 76, 35) := zixd 137 rfl rfl
set_option maxRecDepth 100000 in
theorem zcl_ok_7 : zclP (4, 207, 3) := zixd 138 rfl rfl
set_option maxRecDepth 100000 in
theorem zcl_ok_8 : zclP (4, 257, 4000000000000000000) := zixe 16 rfl rfl
set_option maxRecDepth 100000 in
theorem zcl_ok_9 : zclP (4, 275, 11) := zixe 97 rfl rfl
set_option maxRecDepth 100000 in
theorem zcl_ok_10 : zclP (4, 277, 16) := zixe 98 rfl rfl
theorem zcl_ok_c0 : ∀ q ∈ [(3, 223, 4000000000000000000), (4, 140, 48), (4, 142, 57), (4, 160, 60), (4, 78, 5), (4, 199, 6), (4, 76, 35), (4, 207, 3), (4, 257, 4000000000000000000), (4, 275, 11), (4, 277, 16)], zclP q := List.forall_mem_cons.mpr ⟨zcl_ok_0, List.forall_mem_cons.mpr ⟨zcl_ok_1, List.forall_mem_cons.mpr ⟨zcl_ok_2, List.forall_mem_cons.mpr ⟨zcl_ok_3, List.forall_mem_cons.mpr ⟨zcl_ok_4, List.forall_mem_cons.mpr ⟨zcl_ok_5, List.forall_mem_cons.mpr ⟨zcl_ok_6, List.forall_mem_cons.mpr ⟨zcl_ok_7, List.forall_mem_cons.mpr ⟨zcl_ok_8, List.forall_mem_cons.mpr ⟨zcl_ok_9, List.forall_mem_cons.mpr ⟨zcl_ok_10, fun _ h => absurd h List.not_mem_nil⟩⟩⟩⟩⟩⟩⟩⟩⟩⟩⟩
theorem zcl_ok : ∀ q ∈ zclT, zclP q := zcl_ok_c0
def zknP (q : Nat × Nat × Nat) : Prop := Jvm.Cond.classLink (zcn q.1) q.2.1 (zcn q.2.2) ∈ zTs
set_option maxRecDepth 100000 in
theorem zkn_ok_0 : zknP (5, 7, 3) := zix1 8 rfl rfl
set_option maxRecDepth 100000 in
theorem zkn_ok_1 : zknP (3, 7, 0) := zix1 16 rfl rfl
set_option maxRecDepth 100000 in
theorem zkn_ok_2 : zknP (3, 30, 1) := zix1 57 rfl rfl
set_option maxRecDepth 100000 in
theorem zkn_ok_3 : zknP (1, 9, 0) := zix1 63 rfl rfl
set_option maxRecDepth 100000 in
theorem zkn_ok_4 : zknP (3, 37, 2) := zix1 76 rfl rfl
set_option maxRecDepth 100000 in
theorem zkn_ok_5 : zknP (5, 10, 4) := zixc 129 rfl rfl
theorem zkn_ok_c0 : ∀ q ∈ [(5, 7, 3), (3, 7, 0), (3, 30, 1), (1, 9, 0), (3, 37, 2), (5, 10, 4)], zknP q := List.forall_mem_cons.mpr ⟨zkn_ok_0, List.forall_mem_cons.mpr ⟨zkn_ok_1, List.forall_mem_cons.mpr ⟨zkn_ok_2, List.forall_mem_cons.mpr ⟨zkn_ok_3, List.forall_mem_cons.mpr ⟨zkn_ok_4, List.forall_mem_cons.mpr ⟨zkn_ok_5, fun _ h => absurd h List.not_mem_nil⟩⟩⟩⟩⟩⟩
theorem zkn_ok : ∀ q ∈ zknT, zknP q := zkn_ok_c0
def zbiP (q : Nat × Nat × Nat) : Prop := match q.2.2 with | 1 => Jvm.Cond.methodLink (zcn q.1) q.2.1 Lib.objectInit ∈ zTs | 2 => Jvm.Cond.methodLink (zcn q.1) q.2.1 Lib.Math.min.name ∈ zTs | _ => Jvm.Cond.methodLink (zcn q.1) q.2.1 Lib.Math.abs.name ∈ zTs
set_option maxRecDepth 100000 in
theorem zbi_ok_0 : zbiP (3, 1, 1) := zix1 13 rfl rfl
set_option maxRecDepth 100000 in
theorem zbi_ok_1 : zbiP (0, 3, 1) := zix1 21 rfl rfl
set_option maxRecDepth 100000 in
theorem zbi_ok_2 : zbiP (1, 3, 1) := zix1 62 rfl rfl
set_option maxRecDepth 100000 in
theorem zbi_ok_3 : zbiP (2, 3, 1) := zix1 81 rfl rfl
set_option maxRecDepth 100000 in
theorem zbi_ok_4 : zbiP (0, 103, 2) := zixb 12 rfl rfl
set_option maxRecDepth 100000 in
theorem zbi_ok_5 : zbiP (1, 33, 2) := zixb 96 rfl rfl
set_option maxRecDepth 100000 in
theorem zbi_ok_6 : zbiP (0, 65, 3) := zixc 47 rfl rfl
set_option maxRecDepth 100000 in
theorem zbi_ok_7 : zbiP (4, 1, 1) := zixc 134 rfl rfl
theorem zbi_ok_c0 : ∀ q ∈ [(3, 1, 1), (0, 3, 1), (1, 3, 1), (2, 3, 1), (0, 103, 2), (1, 33, 2), (0, 65, 3), (4, 1, 1)], zbiP q := List.forall_mem_cons.mpr ⟨zbi_ok_0, List.forall_mem_cons.mpr ⟨zbi_ok_1, List.forall_mem_cons.mpr ⟨zbi_ok_2, List.forall_mem_cons.mpr ⟨zbi_ok_3, List.forall_mem_cons.mpr ⟨zbi_ok_4, List.forall_mem_cons.mpr ⟨zbi_ok_5, List.forall_mem_cons.mpr ⟨zbi_ok_6, List.forall_mem_cons.mpr ⟨zbi_ok_7, fun _ h => absurd h List.not_mem_nil⟩⟩⟩⟩⟩⟩⟩⟩
theorem zbi_ok : ∀ q ∈ zbiT, zbiP q := zbi_ok_c0
set_option maxRecDepth 100000 in
theorem zobj1 : Jvm.Cond.instanceMethod Lib.objectInit ∈ zTs := zix1 14 rfl rfl
set_option maxRecDepth 100000 in
theorem zobj2 : Jvm.Cond.code Lib.objectInit ⟨#[0xb1]⟩ 1 none ∈ zTs := zix 15 (by decide +kernel) rfl
set_option maxRecDepth 100000 in
theorem zmin1 : Jvm.Cond.static Lib.Math.min.name ∈ zTs := zixb 13 rfl rfl
set_option maxRecDepth 100000 in
theorem zmin2 : Jvm.Cond.code Lib.Math.min.name Lib.Math.min.code 2 (some .int) ∈ zTs := zix 254 (by decide +kernel) rfl
set_option maxRecDepth 100000 in
theorem zabs1 : Jvm.Cond.static Lib.Math.abs.name ∈ zTs := zixc 48 rfl rfl
set_option maxRecDepth 100000 in
theorem zabs2 : Jvm.Cond.code Lib.Math.abs.name Lib.Math.abs.code 1 (some .int) ∈ zTs := zix 529 (by decide +kernel) rfl
set_option maxRecDepth 100000 in
theorem zmath : Jvm.Cond.initialized "java/lang/Math" ∈ zTs := zix1 6 rfl rfl
set_option maxRecDepth 100000 in
theorem zarri : Jvm.Cond.arrayClass .int ∈ zTs := zix1 55 rfl rfl
set_option maxRecDepth 100000 in
theorem zarrh : Jvm.Cond.arrayOver (.object "SeenFromBehind$Hill") ∈ zTs := zix1 56 rfl rfl
theorem zuw_0 : ∀ w ∈ u_ws (zcn 0) (zF 0) 9, w ∈ zTs := by
  intro w hw
  obtain ⟨k, hk, rfl⟩ := List.mem_map.mp hw
  have hk := List.mem_range.mp hk
  match k, hk with
  | 0, _ => exact zix1 36 rfl rfl
  | 1, _ => exact zix1 38 rfl rfl
  | 2, _ => exact zix1 40 rfl rfl
  | 3, _ => exact zix1 42 rfl rfl
  | 4, _ => exact zix1 44 rfl rfl
  | 5, _ => exact zix1 46 rfl rfl
  | 6, _ => exact zix1 48 rfl rfl
  | 7, _ => exact zix1 50 rfl rfl
  | 8, _ => exact zix1 52 rfl rfl
  | n + 9, h => exact absurd h (by omega)
theorem zty_0 : ∀ k, k < 9 → parseFieldDescriptor (zF 0 k).2.2.1 = some (zTy 0 k) := by decide +kernel
theorem znm_0 : ∀ a, a < 9 → ∀ b, b < 9 → a ≠ b → (zF 0 a).2.1 ≠ (zF 0 b).2.1 := by decide +kernel
set_option maxRecDepth 100000 in
theorem zis_0 : Jvm.Cond.instantiable (zcn 0) 9 ∈ zTs := zix1 17 rfl rfl
set_option maxRecDepth 100000 in
theorem zit_0 : Jvm.Cond.initialized (zcn 0) ∈ zTs := zix1 2 rfl rfl
theorem zuw_1 : ∀ w ∈ u_ws (zcn 1) (zF 1) 3, w ∈ zTs := by
  intro w hw
  obtain ⟨k, hk, rfl⟩ := List.mem_map.mp hw
  have hk := List.mem_range.mp hk
  match k, hk with
  | 0, _ => exact zix1 69 rfl rfl
  | 1, _ => exact zix1 71 rfl rfl
  | 2, _ => exact zix1 73 rfl rfl
  | n + 3, h => exact absurd h (by omega)
theorem zty_1 : ∀ k, k < 3 → parseFieldDescriptor (zF 1 k).2.2.1 = some (zTy 1 k) := by decide +kernel
theorem znm_1 : ∀ a, a < 3 → ∀ b, b < 3 → a ≠ b → (zF 1 a).2.1 ≠ (zF 1 b).2.1 := by decide +kernel
set_option maxRecDepth 100000 in
theorem zis_1 : Jvm.Cond.instantiable (zcn 1) 3 ∈ zTs := zix1 58 rfl rfl
set_option maxRecDepth 100000 in
theorem zit_1 : Jvm.Cond.initialized (zcn 1) ∈ zTs := zix1 3 rfl rfl
theorem zuw_2 : ∀ w ∈ u_ws (zcn 2) (zF 2) 2, w ∈ zTs := by
  intro w hw
  obtain ⟨k, hk, rfl⟩ := List.mem_map.mp hw
  have hk := List.mem_range.mp hk
  match k, hk with
  | 0, _ => exact zix1 85 rfl rfl
  | 1, _ => exact zix1 87 rfl rfl
  | n + 2, h => exact absurd h (by omega)
theorem zty_2 : ∀ k, k < 2 → parseFieldDescriptor (zF 2 k).2.2.1 = some (zTy 2 k) := by decide +kernel
theorem znm_2 : ∀ a, a < 2 → ∀ b, b < 2 → a ≠ b → (zF 2 a).2.1 ≠ (zF 2 b).2.1 := by decide +kernel
set_option maxRecDepth 100000 in
theorem zis_2 : Jvm.Cond.instantiable (zcn 2) 2 ∈ zTs := zix1 77 rfl rfl
set_option maxRecDepth 100000 in
theorem zit_2 : Jvm.Cond.initialized (zcn 2) ∈ zTs := zix1 4 rfl rfl
theorem zuw_3 : ∀ w ∈ u_ws (zcn 3) (zF 3) 10, w ∈ zTs := by
  intro w hw
  obtain ⟨k, hk, rfl⟩ := List.mem_map.mp hw
  have hk := List.mem_range.mp hk
  match k, hk with
  | 0, _ => exact zix1 100 rfl rfl
  | 1, _ => exact zix1 102 rfl rfl
  | 2, _ => exact zix1 104 rfl rfl
  | 3, _ => exact zix1 106 rfl rfl
  | 4, _ => exact zix1 108 rfl rfl
  | 5, _ => exact zix1 110 rfl rfl
  | 6, _ => exact zix1 112 rfl rfl
  | 7, _ => exact zix1 114 rfl rfl
  | 8, _ => exact zix1 116 rfl rfl
  | 9, _ => exact zix1 118 rfl rfl
  | n + 10, h => exact absurd h (by omega)
theorem zty_3 : ∀ k, k < 10 → parseFieldDescriptor (zF 3 k).2.2.1 = some (zTy 3 k) := by decide +kernel
theorem znm_3 : ∀ a, a < 10 → ∀ b, b < 10 → a ≠ b → (zF 3 a).2.1 ≠ (zF 3 b).2.1 := by decide +kernel
set_option maxRecDepth 100000 in
theorem zis_3 : Jvm.Cond.instantiable (zcn 3) 10 ∈ zTs := zix1 9 rfl rfl
set_option maxRecDepth 100000 in
theorem zit_3 : Jvm.Cond.initialized (zcn 3) ∈ zTs := zix1 1 rfl rfl
theorem zuw_4 : ∀ w ∈ u_ws (zcn 4) (zF 4) 35, w ∈ zTs := by
  intro w hw
  obtain ⟨k, hk, rfl⟩ := List.mem_map.mp hw
  have hk := List.mem_range.mp hk
  match k, hk with
  | 0, _ => exact zixc 170 rfl rfl
  | 1, _ => exact zixc 172 rfl rfl
  | 2, _ => exact zixc 174 rfl rfl
  | 3, _ => exact zixc 176 rfl rfl
  | 4, _ => exact zixc 178 rfl rfl
  | 5, _ => exact zixc 180 rfl rfl
  | 6, _ => exact zixc 182 rfl rfl
  | 7, _ => exact zixc 184 rfl rfl
  | 8, _ => exact zixc 186 rfl rfl
  | 9, _ => exact zixc 188 rfl rfl
  | 10, _ => exact zixc 190 rfl rfl
  | 11, _ => exact zixc 192 rfl rfl
  | 12, _ => exact zixc 194 rfl rfl
  | 13, _ => exact zixc 196 rfl rfl
  | 14, _ => exact zixc 198 rfl rfl
  | 15, _ => exact zixc 200 rfl rfl
  | 16, _ => exact zixc 202 rfl rfl
  | 17, _ => exact zixc 204 rfl rfl
  | 18, _ => exact zixc 206 rfl rfl
  | 19, _ => exact zixc 208 rfl rfl
  | 20, _ => exact zixc 210 rfl rfl
  | 21, _ => exact zixc 212 rfl rfl
  | 22, _ => exact zixc 214 rfl rfl
  | 23, _ => exact zixc 216 rfl rfl
  | 24, _ => exact zixc 218 rfl rfl
  | 25, _ => exact zixc 220 rfl rfl
  | 26, _ => exact zixc 222 rfl rfl
  | 27, _ => exact zixc 224 rfl rfl
  | 28, _ => exact zixc 226 rfl rfl
  | 29, _ => exact zixc 228 rfl rfl
  | 30, _ => exact zixc 230 rfl rfl
  | 31, _ => exact zixc 232 rfl rfl
  | 32, _ => exact zixc 234 rfl rfl
  | 33, _ => exact zixc 236 rfl rfl
  | 34, _ => exact zixc 238 rfl rfl
  | n + 35, h => exact absurd h (by omega)
theorem zty_4 : ∀ k, k < 35 → parseFieldDescriptor (zF 4 k).2.2.1 = some (zTy 4 k) := by decide +kernel
theorem znm_4 : ∀ a, a < 35 → ∀ b, b < 35 → a ≠ b → (zF 4 a).2.1 ≠ (zF 4 b).2.1 := by decide +kernel
set_option maxRecDepth 100000 in
theorem zis_4 : Jvm.Cond.instantiable (zcn 4) 35 ∈ zTs := zixc 130 rfl rfl
set_option maxRecDepth 100000 in
theorem zit_4 : Jvm.Cond.initialized (zcn 4) ∈ zTs := zix1 5 rfl rfl
/-- all that is known of a class -/
def zcP (c : Nat) : Prop := (∀ w ∈ u_ws (zcn c) (zF c) (zNf c), w ∈ zTs) ∧ (∀ k, k < zNf c → parseFieldDescriptor (zF c k).2.2.1 = some (zTy c k)) ∧ (∀ a, a < zNf c → ∀ b, b < zNf c → a ≠ b → (zF c a).2.1 ≠ (zF c b).2.1) ∧ Jvm.Cond.instantiable (zcn c) (zNf c) ∈ zTs ∧ Jvm.Cond.initialized (zcn c) ∈ zTs ∧ zcls[c]? = some (zcn c, zF c, zNf c)
theorem zcP_ok (c : Nat) (h : c < 5) : zcP c := by
  match c, h with
  | 0, _ => exact ⟨zuw_0, zty_0, znm_0, zis_0, zit_0, rfl⟩
  | 1, _ => exact ⟨zuw_1, zty_1, znm_1, zis_1, zit_1, rfl⟩
  | 2, _ => exact ⟨zuw_2, zty_2, znm_2, zis_2, zit_2, rfl⟩
  | 3, _ => exact ⟨zuw_3, zty_3, znm_3, zis_3, zit_3, rfl⟩
  | 4, _ => exact ⟨zuw_4, zty_4, znm_4, zis_4, zit_4, rfl⟩
  | n + 5, h => exact absurd h (by omega)
def zmP (m : zM) : Prop := Jvm.Cond.code (zn m) (zb m) (zml m) (zrt m) ∈ zTs ∧ ((zn m).cls ≠ "java/lang/invoke/MethodHandle" ∧ (zn m).cls ≠ "java/lang/invoke/VarHandle" ∧ (parseMethodDescriptor (zn m).desc).map (fun d => d.parameters.length) = some (znp m)) ∧ plainName (zn m).cls = true ∧ (zn m).cls = zcn (zo m) ∧ Jvm.Cond.initialized (zn m).cls ∈ zTs ∧ zml m ≤ 20
set_option maxRecDepth 100000 in
theorem zm_X_init : zmP m_X_init := ⟨zix1 12 rfl rfl, ⟨by decide +kernel, by decide +kernel, by decide +kernel⟩, by decide +kernel, by decide +kernel, zix1 1 rfl rfl, by decide⟩
set_option maxRecDepth 100000 in
theorem zm_H_init : zmP m_H_init := ⟨zix1 20 rfl rfl, ⟨by decide +kernel, by decide +kernel, by decide +kernel⟩, by decide +kernel, by decide +kernel, zix1 2 rfl rfl, by decide⟩
set_option maxRecDepth 100000 in
theorem zm_P_init : zmP m_P_init := ⟨zix1 61 rfl rfl, ⟨by decide +kernel, by decide +kernel, by decide +kernel⟩, by decide +kernel, by decide +kernel, zix1 3 rfl rfl, by decide⟩
set_option maxRecDepth 100000 in
theorem zm_T_init : zmP m_T_init := ⟨zix1 80 rfl rfl, ⟨by decide +kernel, by decide +kernel, by decide +kernel⟩, by decide +kernel, by decide +kernel, zix1 4 rfl rfl, by decide⟩
set_option maxRecDepth 100000 in
theorem zm_X_feed : zmP m_X_feed := ⟨zix1 124 rfl rfl, ⟨by decide +kernel, by decide +kernel, by decide +kernel⟩, by decide +kernel, by decide +kernel, zix1 1 rfl rfl, by decide⟩
set_option maxRecDepth 100000 in
theorem zm_X_refuse : zmP m_X_refuse := ⟨zix1 128 rfl rfl, ⟨by decide +kernel, by decide +kernel, by decide +kernel⟩, by decide +kernel, by decide +kernel, zix1 1 rfl rfl, by decide⟩
set_option maxRecDepth 100000 in
theorem zm_X_at : zmP m_X_at := ⟨zix1 131 rfl rfl, ⟨by decide +kernel, by decide +kernel, by decide +kernel⟩, by decide +kernel, by decide +kernel, zix1 1 rfl rfl, by decide⟩
set_option maxRecDepth 100000 in
theorem zm_X_put : zmP m_X_put := ⟨zix1 134 rfl rfl, ⟨by decide +kernel, by decide +kernel, by decide +kernel⟩, by decide +kernel, by decide +kernel, zix1 1 rfl rfl, by decide⟩
set_option maxRecDepth 100000 in
theorem zm_T_append : zmP m_T_append := ⟨zix1 138 rfl rfl, ⟨by decide +kernel, by decide +kernel, by decide +kernel⟩, by decide +kernel, by decide +kernel, zix1 4 rfl rfl, by decide⟩
set_option maxRecDepth 100000 in
theorem zm_X_hill : zmP m_X_hill := ⟨zix1 143 rfl rfl, ⟨by decide +kernel, by decide +kernel, by decide +kernel⟩, by decide +kernel, by decide +kernel, zix1 1 rfl rfl, by decide⟩
set_option maxRecDepth 100000 in
theorem zm_T_wrongPlace : zmP m_T_wrongPlace := ⟨zix1 147 rfl rfl, ⟨by decide +kernel, by decide +kernel, by decide +kernel⟩, by decide +kernel, by decide +kernel, zix1 4 rfl rfl, by decide⟩
set_option maxRecDepth 100000 in
theorem zm_T_digitsBehind : zmP m_T_digitsBehind := ⟨zix1 151 rfl rfl, ⟨by decide +kernel, by decide +kernel, by decide +kernel⟩, by decide +kernel, by decide +kernel, zix1 4 rfl rfl, by decide⟩
set_option maxRecDepth 100000 in
theorem zm_H_become : zmP m_H_become := ⟨zix1 155 rfl rfl, ⟨by decide +kernel, by decide +kernel, by decide +kernel⟩, by decide +kernel, by decide +kernel, zix1 2 rfl rfl, by decide⟩
set_option maxRecDepth 100000 in
theorem zm_T_beginsStatement : zmP m_T_beginsStatement := ⟨zix1 161 rfl rfl, ⟨by decide +kernel, by decide +kernel, by decide +kernel⟩, by decide +kernel, by decide +kernel, zix1 4 rfl rfl, by decide⟩
set_option maxRecDepth 100000 in
theorem zm_T_comesTo : zmP m_T_comesTo := ⟨zix1 165 rfl rfl, ⟨by decide +kernel, by decide +kernel, by decide +kernel⟩, by decide +kernel, by decide +kernel, zix1 4 rfl rfl, by decide⟩
set_option maxRecDepth 100000 in
theorem zm_T_digit : zmP m_T_digit := ⟨zix1 169 rfl rfl, ⟨by decide +kernel, by decide +kernel, by decide +kernel⟩, by decide +kernel, by decide +kernel, zix1 4 rfl rfl, by decide⟩
set_option maxRecDepth 100000 in
theorem zm_T_number : zmP m_T_number := ⟨zix1 173 rfl rfl, ⟨by decide +kernel, by decide +kernel, by decide +kernel⟩, by decide +kernel, by decide +kernel, zix1 4 rfl rfl, by decide⟩
set_option maxRecDepth 100000 in
theorem zm_T_joins : zmP m_T_joins := ⟨zix1 176 rfl rfl, ⟨by decide +kernel, by decide +kernel, by decide +kernel⟩, by decide +kernel, by decide +kernel, zix1 4 rfl rfl, by decide⟩
set_option maxRecDepth 100000 in
theorem zm_X_isKind : zmP m_X_isKind := ⟨zix1 179 rfl rfl, ⟨by decide +kernel, by decide +kernel, by decide +kernel⟩, by decide +kernel, by decide +kernel, zix1 1 rfl rfl, by decide⟩
set_option maxRecDepth 100000 in
theorem zm_X_isCell : zmP m_X_isCell := ⟨zix1 182 rfl rfl, ⟨by decide +kernel, by decide +kernel, by decide +kernel⟩, by decide +kernel, by decide +kernel, zix1 1 rfl rfl, by decide⟩
set_option maxRecDepth 100000 in
theorem zm_X_isWay : zmP m_X_isWay := ⟨zix1 185 rfl rfl, ⟨by decide +kernel, by decide +kernel, by decide +kernel⟩, by decide +kernel, by decide +kernel, zix1 1 rfl rfl, by decide⟩
set_option maxRecDepth 100000 in
theorem zm_H_isFree : zmP m_H_isFree := ⟨zix1 189 rfl rfl, ⟨by decide +kernel, by decide +kernel, by decide +kernel⟩, by decide +kernel, by decide +kernel, zix1 2 rfl rfl, by decide⟩
set_option maxRecDepth 100000 in
theorem zm_H_whoIsAt : zmP m_H_whoIsAt := ⟨zix1 193 rfl rfl, ⟨by decide +kernel, by decide +kernel, by decide +kernel⟩, by decide +kernel, by decide +kernel, zix1 2 rfl rfl, by decide⟩
set_option maxRecDepth 100000 in
theorem zm_H_join : zmP m_H_join := ⟨zix1 197 rfl rfl, ⟨by decide +kernel, by decide +kernel, by decide +kernel⟩, by decide +kernel, by decide +kernel, zix1 2 rfl rfl, by decide⟩
set_option maxRecDepth 100000 in
theorem zm_T_facesSo : zmP m_T_facesSo := ⟨zix1 200 rfl rfl, ⟨by decide +kernel, by decide +kernel, by decide +kernel⟩, by decide +kernel, by decide +kernel, zix1 4 rfl rfl, by decide⟩
set_option maxRecDepth 100000 in
theorem zm_H_has : zmP m_H_has := ⟨zix1 204 rfl rfl, ⟨by decide +kernel, by decide +kernel, by decide +kernel⟩, by decide +kernel, by decide +kernel, zix1 2 rfl rfl, by decide⟩
set_option maxRecDepth 100000 in
theorem zm_H_face : zmP m_H_face := ⟨zix1 208 rfl rfl, ⟨by decide +kernel, by decide +kernel, by decide +kernel⟩, by decide +kernel, by decide +kernel, zix1 2 rfl rfl, by decide⟩
set_option maxRecDepth 100000 in
theorem zm_T_changesCell : zmP m_T_changesCell := ⟨zix1 211 rfl rfl, ⟨by decide +kernel, by decide +kernel, by decide +kernel⟩, by decide +kernel, by decide +kernel, zix1 4 rfl rfl, by decide⟩
set_option maxRecDepth 100000 in
theorem zm_H_place : zmP m_H_place := ⟨zix1 215 rfl rfl, ⟨by decide +kernel, by decide +kernel, by decide +kernel⟩, by decide +kernel, by decide +kernel, zix1 2 rfl rfl, by decide⟩
set_option maxRecDepth 100000 in
theorem zm_H_hasRoomFor : zmP m_H_hasRoomFor := ⟨zix1 219 rfl rfl, ⟨by decide +kernel, by decide +kernel, by decide +kernel⟩, by decide +kernel, by decide +kernel, zix1 2 rfl rfl, by decide⟩
set_option maxRecDepth 100000 in
theorem zm_H_pass : zmP m_H_pass := ⟨zix1 223 rfl rfl, ⟨by decide +kernel, by decide +kernel, by decide +kernel⟩, by decide +kernel, by decide +kernel, zix1 2 rfl rfl, by decide⟩
set_option maxRecDepth 100000 in
theorem zm_H_nightWithout : zmP m_H_nightWithout := ⟨zix1 227 rfl rfl, ⟨by decide +kernel, by decide +kernel, by decide +kernel⟩, by decide +kernel, by decide +kernel, zix1 2 rfl rfl, by decide⟩
set_option maxRecDepth 100000 in
theorem zm_H_inLens : zmP m_H_inLens := ⟨zix1 231 rfl rfl, ⟨by decide +kernel, by decide +kernel, by decide +kernel⟩, by decide +kernel, by decide +kernel, zix1 2 rfl rfl, by decide⟩
set_option maxRecDepth 100000 in
theorem zm_X_turned : zmP m_X_turned := ⟨zix1 234 rfl rfl, ⟨by decide +kernel, by decide +kernel, by decide +kernel⟩, by decide +kernel, by decide +kernel, zix1 1 rfl rfl, by decide⟩
set_option maxRecDepth 100000 in
theorem zm_H_depthOf : zmP m_H_depthOf := ⟨zix1 238 rfl rfl, ⟨by decide +kernel, by decide +kernel, by decide +kernel⟩, by decide +kernel, by decide +kernel, zix1 2 rfl rfl, by decide⟩
set_option maxRecDepth 100000 in
theorem zm_X_depth : zmP m_X_depth := ⟨zixb 1 rfl rfl, ⟨by decide +kernel, by decide +kernel, by decide +kernel⟩, by decide +kernel, by decide +kernel, zix1 1 rfl rfl, by decide⟩
set_option maxRecDepth 100000 in
theorem zm_H_nextTo : zmP m_H_nextTo := ⟨zixb 5 rfl rfl, ⟨by decide +kernel, by decide +kernel, by decide +kernel⟩, by decide +kernel, by decide +kernel, zix1 2 rfl rfl, by decide⟩
set_option maxRecDepth 100000 in
theorem zm_X_cellBeside : zmP m_X_cellBeside := ⟨zixb 8 rfl rfl, ⟨by decide +kernel, by decide +kernel, by decide +kernel⟩, by decide +kernel, by decide +kernel, zix1 1 rfl rfl, by decide⟩
set_option maxRecDepth 100000 in
theorem zm_X_bitOf : zmP m_X_bitOf := ⟨zixb 11 rfl rfl, ⟨by decide +kernel, by decide +kernel, by decide +kernel⟩, by decide +kernel, by decide +kernel, zix1 1 rfl rfl, by decide⟩
set_option maxRecDepth 100000 in
theorem zm_H_stirs : zmP m_H_stirs := ⟨zixb 18 rfl rfl, ⟨by decide +kernel, by decide +kernel, by decide +kernel⟩, by decide +kernel, by decide +kernel, zix1 2 rfl rfl, by decide⟩
set_option maxRecDepth 100000 in
theorem zm_H_ahead : zmP m_H_ahead := ⟨zixb 22 rfl rfl, ⟨by decide +kernel, by decide +kernel, by decide +kernel⟩, by decide +kernel, by decide +kernel, zix1 2 rfl rfl, by decide⟩
set_option maxRecDepth 100000 in
theorem zm_H_reachOf : zmP m_H_reachOf := ⟨zixb 26 rfl rfl, ⟨by decide +kernel, by decide +kernel, by decide +kernel⟩, by decide +kernel, by decide +kernel, zix1 2 rfl rfl, by decide⟩
set_option maxRecDepth 100000 in
theorem zm_X_reach : zmP m_X_reach := ⟨zixb 29 rfl rfl, ⟨by decide +kernel, by decide +kernel, by decide +kernel⟩, by decide +kernel, by decide +kernel, zix1 1 rfl rfl, by decide⟩
set_option maxRecDepth 100000 in
theorem zm_H_turnsBy : zmP m_H_turnsBy := ⟨zixb 33 rfl rfl, ⟨by decide +kernel, by decide +kernel, by decide +kernel⟩, by decide +kernel, by decide +kernel, zix1 2 rfl rfl, by decide⟩
set_option maxRecDepth 100000 in
theorem zm_H_stepsTo : zmP m_H_stepsTo := ⟨zixb 37 rfl rfl, ⟨by decide +kernel, by decide +kernel, by decide +kernel⟩, by decide +kernel, by decide +kernel, zix1 2 rfl rfl, by decide⟩
set_option maxRecDepth 100000 in
theorem zm_T_forget : zmP m_T_forget := ⟨zixb 42 rfl rfl, ⟨by decide +kernel, by decide +kernel, by decide +kernel⟩, by decide +kernel, by decide +kernel, zix1 4 rfl rfl, by decide⟩
set_option maxRecDepth 100000 in
theorem zm_P_forget : zmP m_P_forget := ⟨zixb 46 rfl rfl, ⟨by decide +kernel, by decide +kernel, by decide +kernel⟩, by decide +kernel, by decide +kernel, zix1 3 rfl rfl, by decide⟩
set_option maxRecDepth 100000 in
theorem zm_X_personOf : zmP m_X_personOf := ⟨zixb 50 rfl rfl, ⟨by decide +kernel, by decide +kernel, by decide +kernel⟩, by decide +kernel, by decide +kernel, zix1 1 rfl rfl, by decide⟩
set_option maxRecDepth 100000 in
theorem zm_H_kindOf : zmP m_H_kindOf := ⟨zixb 55 rfl rfl, ⟨by decide +kernel, by decide +kernel, by decide +kernel⟩, by decide +kernel, by decide +kernel, zix1 2 rfl rfl, by decide⟩
set_option maxRecDepth 100000 in
theorem zm_H_figureOf : zmP m_H_figureOf := ⟨zixb 59 rfl rfl, ⟨by decide +kernel, by decide +kernel, by decide +kernel⟩, by decide +kernel, by decide +kernel, zix1 2 rfl rfl, by decide⟩
set_option maxRecDepth 100000 in
theorem zm_H_cellOf : zmP m_H_cellOf := ⟨zixb 63 rfl rfl, ⟨by decide +kernel, by decide +kernel, by decide +kernel⟩, by decide +kernel, by decide +kernel, zix1 2 rfl rfl, by decide⟩
set_option maxRecDepth 100000 in
theorem zm_H_facesOf : zmP m_H_facesOf := ⟨zixb 67 rfl rfl, ⟨by decide +kernel, by decide +kernel, by decide +kernel⟩, by decide +kernel, by decide +kernel, zix1 2 rfl rfl, by decide⟩
set_option maxRecDepth 100000 in
theorem zm_H_startsOf : zmP m_H_startsOf := ⟨zixb 71 rfl rfl, ⟨by decide +kernel, by decide +kernel, by decide +kernel⟩, by decide +kernel, by decide +kernel, zix1 2 rfl rfl, by decide⟩
set_option maxRecDepth 100000 in
theorem zm_X_person : zmP m_X_person := ⟨zixb 77 rfl rfl, ⟨by decide +kernel, by decide +kernel, by decide +kernel⟩, by decide +kernel, by decide +kernel, zix1 1 rfl rfl, by decide⟩
set_option maxRecDepth 100000 in
theorem zm_X_turns : zmP m_X_turns := ⟨zixb 86 rfl rfl, ⟨by decide +kernel, by decide +kernel, by decide +kernel⟩, by decide +kernel, by decide +kernel, zix1 1 rfl rfl, by decide⟩
set_option maxRecDepth 100000 in
theorem zm_P_keep : zmP m_P_keep := ⟨zixb 90 rfl rfl, ⟨by decide +kernel, by decide +kernel, by decide +kernel⟩, by decide +kernel, by decide +kernel, zix1 3 rfl rfl, by decide⟩
set_option maxRecDepth 100000 in
theorem zm_P_placeAt : zmP m_P_placeAt := ⟨zixb 94 rfl rfl, ⟨by decide +kernel, by decide +kernel, by decide +kernel⟩, by decide +kernel, by decide +kernel, zix1 3 rfl rfl, by decide⟩
set_option maxRecDepth 100000 in
theorem zm_X_stands : zmP m_X_stands := ⟨zixb 101 rfl rfl, ⟨by decide +kernel, by decide +kernel, by decide +kernel⟩, by decide +kernel, by decide +kernel, zix1 1 rfl rfl, by decide⟩
set_option maxRecDepth 100000 in
theorem zm_X_nights : zmP m_X_nights := ⟨zixb 106 rfl rfl, ⟨by decide +kernel, by decide +kernel, by decide +kernel⟩, by decide +kernel, by decide +kernel, zix1 1 rfl rfl, by decide⟩
set_option maxRecDepth 100000 in
theorem zm_H_startsTogether : zmP m_H_startsTogether := ⟨zixb 112 rfl rfl, ⟨by decide +kernel, by decide +kernel, by decide +kernel⟩, by decide +kernel, by decide +kernel, zix1 2 rfl rfl, by decide⟩
set_option maxRecDepth 100000 in
theorem zm_X_back : zmP m_X_back := ⟨zixb 116 rfl rfl, ⟨by decide +kernel, by decide +kernel, by decide +kernel⟩, by decide +kernel, by decide +kernel, zix1 1 rfl rfl, by decide⟩
set_option maxRecDepth 100000 in
theorem zm_P_giveBack : zmP m_P_giveBack := ⟨zixb 120 rfl rfl, ⟨by decide +kernel, by decide +kernel, by decide +kernel⟩, by decide +kernel, by decide +kernel, zix1 3 rfl rfl, by decide⟩
set_option maxRecDepth 100000 in
theorem zm_X_behind : zmP m_X_behind := ⟨zixb 124 rfl rfl, ⟨by decide +kernel, by decide +kernel, by decide +kernel⟩, by decide +kernel, by decide +kernel, zix1 1 rfl rfl, by decide⟩
set_option maxRecDepth 100000 in
theorem zm_X_wrongNights : zmP m_X_wrongNights := ⟨zixb 128 rfl rfl, ⟨by decide +kernel, by decide +kernel, by decide +kernel⟩, by decide +kernel, by decide +kernel, zix1 1 rfl rfl, by decide⟩
set_option maxRecDepth 100000 in
theorem zm_X_lookAhead : zmP m_X_lookAhead := ⟨zixb 132 rfl rfl, ⟨by decide +kernel, by decide +kernel, by decide +kernel⟩, by decide +kernel, by decide +kernel, zix1 1 rfl rfl, by decide⟩
set_option maxRecDepth 100000 in
theorem zm_H_watchers : zmP m_H_watchers := ⟨zixb 139 rfl rfl, ⟨by decide +kernel, by decide +kernel, by decide +kernel⟩, by decide +kernel, by decide +kernel, zix1 2 rfl rfl, by decide⟩
set_option maxRecDepth 100000 in
theorem zm_X_allStarts : zmP m_X_allStarts := ⟨zixb 143 rfl rfl, ⟨by decide +kernel, by decide +kernel, by decide +kernel⟩, by decide +kernel, by decide +kernel, zix1 1 rfl rfl, by decide⟩
set_option maxRecDepth 100000 in
theorem zm_X_first : zmP m_X_first := ⟨zixb 147 rfl rfl, ⟨by decide +kernel, by decide +kernel, by decide +kernel⟩, by decide +kernel, by decide +kernel, zix1 1 rfl rfl, by decide⟩
set_option maxRecDepth 100000 in
theorem zm_X_wrongWhat : zmP m_X_wrongWhat := ⟨zixb 151 rfl rfl, ⟨by decide +kernel, by decide +kernel, by decide +kernel⟩, by decide +kernel, by decide +kernel, zix1 1 rfl rfl, by decide⟩
set_option maxRecDepth 100000 in
theorem zm_X_still : zmP m_X_still := ⟨zixb 155 rfl rfl, ⟨by decide +kernel, by decide +kernel, by decide +kernel⟩, by decide +kernel, by decide +kernel, zix1 1 rfl rfl, by decide⟩
set_option maxRecDepth 100000 in
theorem zm_X_unseen : zmP m_X_unseen := ⟨zixb 159 rfl rfl, ⟨by decide +kernel, by decide +kernel, by decide +kernel⟩, by decide +kernel, by decide +kernel, zix1 1 rfl rfl, by decide⟩
set_option maxRecDepth 100000 in
theorem zm_H_everybody : zmP m_H_everybody := ⟨zixb 164 rfl rfl, ⟨by decide +kernel, by decide +kernel, by decide +kernel⟩, by decide +kernel, by decide +kernel, zix1 2 rfl rfl, by decide⟩
set_option maxRecDepth 100000 in
theorem zm_X_chain : zmP m_X_chain := ⟨zixb 168 rfl rfl, ⟨by decide +kernel, by decide +kernel, by decide +kernel⟩, by decide +kernel, by decide +kernel, zix1 1 rfl rfl, by decide⟩
set_option maxRecDepth 100000 in
theorem zm_H_chainOf : zmP m_H_chainOf := ⟨zixb 172 rfl rfl, ⟨by decide +kernel, by decide +kernel, by decide +kernel⟩, by decide +kernel, by decide +kernel, zix1 2 rfl rfl, by decide⟩
set_option maxRecDepth 100000 in
theorem zm_X_deepest : zmP m_X_deepest := ⟨zixb 176 rfl rfl, ⟨by decide +kernel, by decide +kernel, by decide +kernel⟩, by decide +kernel, by decide +kernel, zix1 1 rfl rfl, by decide⟩
set_option maxRecDepth 100000 in
theorem zm_X_knows : zmP m_X_knows := ⟨zixb 180 rfl rfl, ⟨by decide +kernel, by decide +kernel, by decide +kernel⟩, by decide +kernel, by decide +kernel, zix1 1 rfl rfl, by decide⟩
set_option maxRecDepth 100000 in
theorem zm_H_seenBy : zmP m_H_seenBy := ⟨zixb 184 rfl rfl, ⟨by decide +kernel, by decide +kernel, by decide +kernel⟩, by decide +kernel, by decide +kernel, zix1 2 rfl rfl, by decide⟩
set_option maxRecDepth 100000 in
theorem zm_X_safe : zmP m_X_safe := ⟨zixb 188 rfl rfl, ⟨by decide +kernel, by decide +kernel, by decide +kernel⟩, by decide +kernel, by decide +kernel, zix1 1 rfl rfl, by decide⟩
set_option maxRecDepth 100000 in
theorem zm_X_alone : zmP m_X_alone := ⟨zixb 192 rfl rfl, ⟨by decide +kernel, by decide +kernel, by decide +kernel⟩, by decide +kernel, by decide +kernel, zix1 1 rfl rfl, by decide⟩
set_option maxRecDepth 100000 in
theorem zm_X_turnAll : zmP m_X_turnAll := ⟨zixb 196 rfl rfl, ⟨by decide +kernel, by decide +kernel, by decide +kernel⟩, by decide +kernel, by decide +kernel, zix1 1 rfl rfl, by decide⟩
set_option maxRecDepth 100000 in
theorem zm_H_seesAllWays : zmP m_H_seesAllWays := ⟨zixb 200 rfl rfl, ⟨by decide +kernel, by decide +kernel, by decide +kernel⟩, by decide +kernel, by decide +kernel, zix1 2 rfl rfl, by decide⟩
set_option maxRecDepth 100000 in
theorem zm_X_post : zmP m_X_post := ⟨zixb 204 rfl rfl, ⟨by decide +kernel, by decide +kernel, by decide +kernel⟩, by decide +kernel, by decide +kernel, zix1 1 rfl rfl, by decide⟩
set_option maxRecDepth 100000 in
theorem zm_H_facesToSeeUnseen : zmP m_H_facesToSeeUnseen := ⟨zixb 208 rfl rfl, ⟨by decide +kernel, by decide +kernel, by decide +kernel⟩, by decide +kernel, by decide +kernel, zix1 2 rfl rfl, by decide⟩
set_option maxRecDepth 100000 in
theorem zm_X_which : zmP m_X_which := ⟨zixb 212 rfl rfl, ⟨by decide +kernel, by decide +kernel, by decide +kernel⟩, by decide +kernel, by decide +kernel, zix1 1 rfl rfl, by decide⟩
set_option maxRecDepth 100000 in
theorem zm_H_beOfKind : zmP m_H_beOfKind := ⟨zixb 216 rfl rfl, ⟨by decide +kernel, by decide +kernel, by decide +kernel⟩, by decide +kernel, by decide +kernel, zix1 2 rfl rfl, by decide⟩
set_option maxRecDepth 100000 in
theorem zm_H_beOfFigure : zmP m_H_beOfFigure := ⟨zixb 220 rfl rfl, ⟨by decide +kernel, by decide +kernel, by decide +kernel⟩, by decide +kernel, by decide +kernel, zix1 2 rfl rfl, by decide⟩
set_option maxRecDepth 100000 in
theorem zm_X_turnsAsTold : zmP m_X_turnsAsTold := ⟨zixb 224 rfl rfl, ⟨by decide +kernel, by decide +kernel, by decide +kernel⟩, by decide +kernel, by decide +kernel, zix1 1 rfl rfl, by decide⟩
set_option maxRecDepth 100000 in
theorem zm_X_bestStep : zmP m_X_bestStep := ⟨zixb 228 rfl rfl, ⟨by decide +kernel, by decide +kernel, by decide +kernel⟩, by decide +kernel, by decide +kernel, zix1 1 rfl rfl, by decide⟩
set_option maxRecDepth 100000 in
theorem zm_H_cellOfStep : zmP m_H_cellOfStep := ⟨zixb 232 rfl rfl, ⟨by decide +kernel, by decide +kernel, by decide +kernel⟩, by decide +kernel, by decide +kernel, zix1 2 rfl rfl, by decide⟩
set_option maxRecDepth 100000 in
theorem zm_J_bitCount : zmP m_J_bitCount := ⟨zixb 235 rfl rfl, ⟨by decide +kernel, by decide +kernel, by decide +kernel⟩, by decide +kernel, by decide +kernel, zix1 7 rfl rfl, by decide⟩
set_option maxRecDepth 100000 in
theorem zm_X_two : zmP m_X_two := ⟨zixc 2 rfl rfl, ⟨by decide +kernel, by decide +kernel, by decide +kernel⟩, by decide +kernel, by decide +kernel, zix1 1 rfl rfl, by decide⟩
set_option maxRecDepth 100000 in
theorem zm_X_areTwo : zmP m_X_areTwo := ⟨zixc 6 rfl rfl, ⟨by decide +kernel, by decide +kernel, by decide +kernel⟩, by decide +kernel, by decide +kernel, zix1 1 rfl rfl, by decide⟩
set_option maxRecDepth 100000 in
theorem zm_X_stepsSeenByFaces : zmP m_X_stepsSeenByFaces := ⟨zixc 10 rfl rfl, ⟨by decide +kernel, by decide +kernel, by decide +kernel⟩, by decide +kernel, by decide +kernel, zix1 1 rfl rfl, by decide⟩
set_option maxRecDepth 100000 in
theorem zm_X_pairBit : zmP m_X_pairBit := ⟨zixc 13 rfl rfl, ⟨by decide +kernel, by decide +kernel, by decide +kernel⟩, by decide +kernel, by decide +kernel, zix1 1 rfl rfl, by decide⟩
set_option maxRecDepth 100000 in
theorem zm_X_neitherHasBetter : zmP m_X_neitherHasBetter := ⟨zixc 16 rfl rfl, ⟨by decide +kernel, by decide +kernel, by decide +kernel⟩, by decide +kernel, by decide +kernel, zix1 1 rfl rfl, by decide⟩
set_option maxRecDepth 100000 in
theorem zm_X_slept : zmP m_X_slept := ⟨zixc 20 rfl rfl, ⟨by decide +kernel, by decide +kernel, by decide +kernel⟩, by decide +kernel, by decide +kernel, zix1 1 rfl rfl, by decide⟩
set_option maxRecDepth 100000 in
theorem zm_X_waysToFace : zmP m_X_waysToFace := ⟨zixc 24 rfl rfl, ⟨by decide +kernel, by decide +kernel, by decide +kernel⟩, by decide +kernel, by decide +kernel, zix1 1 rfl rfl, by decide⟩
set_option maxRecDepth 100000 in
theorem zm_X_commonDivisor : zmP m_X_commonDivisor := ⟨zixc 27 rfl rfl, ⟨by decide +kernel, by decide +kernel, by decide +kernel⟩, by decide +kernel, by decide +kernel, zix1 1 rfl rfl, by decide⟩
set_option maxRecDepth 100000 in
theorem zm_X_busiest : zmP m_X_busiest := ⟨zixc 31 rfl rfl, ⟨by decide +kernel, by decide +kernel, by decide +kernel⟩, by decide +kernel, by decide +kernel, zix1 1 rfl rfl, by decide⟩
set_option maxRecDepth 100000 in
theorem zm_X_twos : zmP m_X_twos := ⟨zixc 35 rfl rfl, ⟨by decide +kernel, by decide +kernel, by decide +kernel⟩, by decide +kernel, by decide +kernel, zix1 1 rfl rfl, by decide⟩
set_option maxRecDepth 100000 in
theorem zm_X_nearest : zmP m_X_nearest := ⟨zixc 39 rfl rfl, ⟨by decide +kernel, by decide +kernel, by decide +kernel⟩, by decide +kernel, by decide +kernel, zix1 1 rfl rfl, by decide⟩
set_option maxRecDepth 100000 in
theorem zm_H_cellsApart : zmP m_H_cellsApart := ⟨zixc 43 rfl rfl, ⟨by decide +kernel, by decide +kernel, by decide +kernel⟩, by decide +kernel, by decide +kernel, zix1 2 rfl rfl, by decide⟩
set_option maxRecDepth 100000 in
theorem zm_X_rowOf : zmP m_X_rowOf := ⟨zixc 46 rfl rfl, ⟨by decide +kernel, by decide +kernel, by decide +kernel⟩, by decide +kernel, by decide +kernel, zix1 1 rfl rfl, by decide⟩
set_option maxRecDepth 100000 in
theorem zm_X_columnOf : zmP m_X_columnOf := ⟨zixc 52 rfl rfl, ⟨by decide +kernel, by decide +kernel, by decide +kernel⟩, by decide +kernel, by decide +kernel, zix1 1 rfl rfl, by decide⟩
set_option maxRecDepth 100000 in
theorem zm_X_lines : zmP m_X_lines := ⟨zixc 56 rfl rfl, ⟨by decide +kernel, by decide +kernel, by decide +kernel⟩, by decide +kernel, by decide +kernel, zix1 1 rfl rfl, by decide⟩
set_option maxRecDepth 100000 in
theorem zm_X_hidden : zmP m_X_hidden := ⟨zixc 62 rfl rfl, ⟨by decide +kernel, by decide +kernel, by decide +kernel⟩, by decide +kernel, by decide +kernel, zix1 1 rfl rfl, by decide⟩
set_option maxRecDepth 100000 in
theorem zm_X_longest : zmP m_X_longest := ⟨zixc 67 rfl rfl, ⟨by decide +kernel, by decide +kernel, by decide +kernel⟩, by decide +kernel, by decide +kernel, zix1 1 rfl rfl, by decide⟩
set_option maxRecDepth 100000 in
theorem zm_X_walks : zmP m_X_walks := ⟨zixc 71 rfl rfl, ⟨by decide +kernel, by decide +kernel, by decide +kernel⟩, by decide +kernel, by decide +kernel, zix1 1 rfl rfl, by decide⟩
set_option maxRecDepth 100000 in
theorem zm_X_meets : zmP m_X_meets := ⟨zixc 75 rfl rfl, ⟨by decide +kernel, by decide +kernel, by decide +kernel⟩, by decide +kernel, by decide +kernel, zix1 1 rfl rfl, by decide⟩
set_option maxRecDepth 100000 in
theorem zm_X_leave : zmP m_X_leave := ⟨zixc 79 rfl rfl, ⟨by decide +kernel, by decide +kernel, by decide +kernel⟩, by decide +kernel, by decide +kernel, zix1 1 rfl rfl, by decide⟩
set_option maxRecDepth 100000 in
theorem zm_X_most : zmP m_X_most := ⟨zixc 83 rfl rfl, ⟨by decide +kernel, by decide +kernel, by decide +kernel⟩, by decide +kernel, by decide +kernel, zix1 1 rfl rfl, by decide⟩
set_option maxRecDepth 100000 in
theorem zm_X_quiet : zmP m_X_quiet := ⟨zixc 87 rfl rfl, ⟨by decide +kernel, by decide +kernel, by decide +kernel⟩, by decide +kernel, by decide +kernel, zix1 1 rfl rfl, by decide⟩
set_option maxRecDepth 100000 in
theorem zm_X_row : zmP m_X_row := ⟨zixc 91 rfl rfl, ⟨by decide +kernel, by decide +kernel, by decide +kernel⟩, by decide +kernel, by decide +kernel, zix1 1 rfl rfl, by decide⟩
set_option maxRecDepth 100000 in
theorem zm_X_judge : zmP m_X_judge := ⟨zixc 95 rfl rfl, ⟨by decide +kernel, by decide +kernel, by decide +kernel⟩, by decide +kernel, by decide +kernel, zix1 1 rfl rfl, by decide⟩
set_option maxRecDepth 100000 in
theorem zm_X_clear : zmP m_X_clear := ⟨zixc 99 rfl rfl, ⟨by decide +kernel, by decide +kernel, by decide +kernel⟩, by decide +kernel, by decide +kernel, zix1 1 rfl rfl, by decide⟩
set_option maxRecDepth 100000 in
theorem zm_X_lots : zmP m_X_lots := ⟨zixc 103 rfl rfl, ⟨by decide +kernel, by decide +kernel, by decide +kernel⟩, by decide +kernel, by decide +kernel, zix1 1 rfl rfl, by decide⟩
set_option maxRecDepth 100000 in
theorem zm_X_nextSeed : zmP m_X_nextSeed := ⟨zixc 106 rfl rfl, ⟨by decide +kernel, by decide +kernel, by decide +kernel⟩, by decide +kernel, by decide +kernel, zix1 1 rfl rfl, by decide⟩
set_option maxRecDepth 100000 in
theorem zm_X_drawOf : zmP m_X_drawOf := ⟨zixc 110 rfl rfl, ⟨by decide +kernel, by decide +kernel, by decide +kernel⟩, by decide +kernel, by decide +kernel, zix1 1 rfl rfl, by decide⟩
set_option maxRecDepth 100000 in
theorem zm_H_howManySee : zmP m_H_howManySee := ⟨zixc 116 rfl rfl, ⟨by decide +kernel, by decide +kernel, by decide +kernel⟩, by decide +kernel, by decide +kernel, zix1 2 rfl rfl, by decide⟩
set_option maxRecDepth 100000 in
theorem zm_X_image : zmP m_X_image := ⟨zixc 120 rfl rfl, ⟨by decide +kernel, by decide +kernel, by decide +kernel⟩, by decide +kernel, by decide +kernel, zix1 1 rfl rfl, by decide⟩
set_option maxRecDepth 100000 in
theorem zm_X_restore : zmP m_X_restore := ⟨zixc 124 rfl rfl, ⟨by decide +kernel, by decide +kernel, by decide +kernel⟩, by decide +kernel, by decide +kernel, zix1 1 rfl rfl, by decide⟩
set_option maxRecDepth 100000 in
theorem zm_X_count : zmP m_X_count := ⟨zixc 128 rfl rfl, ⟨by decide +kernel, by decide +kernel, by decide +kernel⟩, by decide +kernel, by decide +kernel, zix1 1 rfl rfl, by decide⟩
set_option maxRecDepth 100000 in
theorem zm_M_init : zmP m_M_init := ⟨zixc 133 rfl rfl, ⟨by decide +kernel, by decide +kernel, by decide +kernel⟩, by decide +kernel, by decide +kernel, zix1 5 rfl rfl, by decide⟩
set_option maxRecDepth 100000 in
theorem zm_M_feed : zmP m_M_feed := ⟨zixd 4 rfl rfl, ⟨by decide +kernel, by decide +kernel, by decide +kernel⟩, by decide +kernel, by decide +kernel, zix1 5 rfl rfl, by decide⟩
set_option maxRecDepth 100000 in
theorem zm_M_refuse : zmP m_M_refuse := ⟨zixd 8 rfl rfl, ⟨by decide +kernel, by decide +kernel, by decide +kernel⟩, by decide +kernel, by decide +kernel, zix1 5 rfl rfl, by decide⟩
set_option maxRecDepth 100000 in
theorem zm_M_hill : zmP m_M_hill := ⟨zixd 12 rfl rfl, ⟨by decide +kernel, by decide +kernel, by decide +kernel⟩, by decide +kernel, by decide +kernel, zix1 5 rfl rfl, by decide⟩
set_option maxRecDepth 100000 in
theorem zm_M_readStatement : zmP m_M_readStatement := ⟨zixd 16 rfl rfl, ⟨by decide +kernel, by decide +kernel, by decide +kernel⟩, by decide +kernel, by decide +kernel, zix1 5 rfl rfl, by decide⟩
set_option maxRecDepth 100000 in
theorem zm_M_here : zmP m_M_here := ⟨zixd 20 rfl rfl, ⟨by decide +kernel, by decide +kernel, by decide +kernel⟩, by decide +kernel, by decide +kernel, zix1 5 rfl rfl, by decide⟩
set_option maxRecDepth 100000 in
theorem zm_M_isLetter : zmP m_M_isLetter := ⟨zixd 23 rfl rfl, ⟨by decide +kernel, by decide +kernel, by decide +kernel⟩, by decide +kernel, by decide +kernel, zix1 5 rfl rfl, by decide⟩
set_option maxRecDepth 100000 in
theorem zm_M_readNumbers : zmP m_M_readNumbers := ⟨zixd 27 rfl rfl, ⟨by decide +kernel, by decide +kernel, by decide +kernel⟩, by decide +kernel, by decide +kernel, zix1 5 rfl rfl, by decide⟩
set_option maxRecDepth 100000 in
theorem zm_M_readDigits : zmP m_M_readDigits := ⟨zixd 31 rfl rfl, ⟨by decide +kernel, by decide +kernel, by decide +kernel⟩, by decide +kernel, by decide +kernel, zix1 5 rfl rfl, by decide⟩
set_option maxRecDepth 100000 in
theorem zm_M_in : zmP m_M_in := ⟨zixd 36 rfl rfl, ⟨by decide +kernel, by decide +kernel, by decide +kernel⟩, by decide +kernel, by decide +kernel, zix1 5 rfl rfl, by decide⟩
set_option maxRecDepth 100000 in
theorem zm_M_think : zmP m_M_think := ⟨zixd 40 rfl rfl, ⟨by decide +kernel, by decide +kernel, by decide +kernel⟩, by decide +kernel, by decide +kernel, zix1 5 rfl rfl, by decide⟩
set_option maxRecDepth 100000 in
theorem zm_M_carryAll : zmP m_M_carryAll := ⟨zixd 44 rfl rfl, ⟨by decide +kernel, by decide +kernel, by decide +kernel⟩, by decide +kernel, by decide +kernel, zix1 5 rfl rfl, by decide⟩
set_option maxRecDepth 100000 in
theorem zm_M_carry : zmP m_M_carry := ⟨zixd 48 rfl rfl, ⟨by decide +kernel, by decide +kernel, by decide +kernel⟩, by decide +kernel, by decide +kernel, zix1 5 rfl rfl, by decide⟩
set_option maxRecDepth 100000 in
theorem zm_M_comesTold : zmP m_M_comesTold := ⟨zixd 52 rfl rfl, ⟨by decide +kernel, by decide +kernel, by decide +kernel⟩, by decide +kernel, by decide +kernel, zix1 5 rfl rfl, by decide⟩
set_option maxRecDepth 100000 in
theorem zm_M_oneIn : zmP m_M_oneIn := ⟨zixd 56 rfl rfl, ⟨by decide +kernel, by decide +kernel, by decide +kernel⟩, by decide +kernel, by decide +kernel, zix1 5 rfl rfl, by decide⟩
set_option maxRecDepth 100000 in
theorem zm_M_oneComes : zmP m_M_oneComes := ⟨zixd 60 rfl rfl, ⟨by decide +kernel, by decide +kernel, by decide +kernel⟩, by decide +kernel, by decide +kernel, zix1 5 rfl rfl, by decide⟩
set_option maxRecDepth 100000 in
theorem zm_M_isOne : zmP m_M_isOne := ⟨zixd 64 rfl rfl, ⟨by decide +kernel, by decide +kernel, by decide +kernel⟩, by decide +kernel, by decide +kernel, zix1 5 rfl rfl, by decide⟩
set_option maxRecDepth 100000 in
theorem zm_M_goNights : zmP m_M_goNights := ⟨zixd 69 rfl rfl, ⟨by decide +kernel, by decide +kernel, by decide +kernel⟩, by decide +kernel, by decide +kernel, zix1 5 rfl rfl, by decide⟩
set_option maxRecDepth 100000 in
theorem zm_M_nightBy : zmP m_M_nightBy := ⟨zixd 73 rfl rfl, ⟨by decide +kernel, by decide +kernel, by decide +kernel⟩, by decide +kernel, by decide +kernel, zix1 5 rfl rfl, by decide⟩
set_option maxRecDepth 100000 in
theorem zm_M_lensOf : zmP m_M_lensOf := ⟨zixd 77 rfl rfl, ⟨by decide +kernel, by decide +kernel, by decide +kernel⟩, by decide +kernel, by decide +kernel, zix1 5 rfl rfl, by decide⟩
set_option maxRecDepth 100000 in
theorem zm_M_depthOf : zmP m_M_depthOf := ⟨zixd 81 rfl rfl, ⟨by decide +kernel, by decide +kernel, by decide +kernel⟩, by decide +kernel, by decide +kernel, zix1 5 rfl rfl, by decide⟩
set_option maxRecDepth 100000 in
theorem zm_M_nextFrom : zmP m_M_nextFrom := ⟨zixd 85 rfl rfl, ⟨by decide +kernel, by decide +kernel, by decide +kernel⟩, by decide +kernel, by decide +kernel, zix1 5 rfl rfl, by decide⟩
set_option maxRecDepth 100000 in
theorem zm_M_straight : zmP m_M_straight := ⟨zixd 88 rfl rfl, ⟨by decide +kernel, by decide +kernel, by decide +kernel⟩, by decide +kernel, by decide +kernel, zix1 5 rfl rfl, by decide⟩
set_option maxRecDepth 100000 in
theorem zm_M_goesBy : zmP m_M_goesBy := ⟨zixd 93 rfl rfl, ⟨by decide +kernel, by decide +kernel, by decide +kernel⟩, by decide +kernel, by decide +kernel, zix1 5 rfl rfl, by decide⟩
set_option maxRecDepth 100000 in
theorem zm_M_aheadOf : zmP m_M_aheadOf := ⟨zixd 97 rfl rfl, ⟨by decide +kernel, by decide +kernel, by decide +kernel⟩, by decide +kernel, by decide +kernel, zix1 5 rfl rfl, by decide⟩
set_option maxRecDepth 100000 in
theorem zm_M_reachOf : zmP m_M_reachOf := ⟨zixd 101 rfl rfl, ⟨by decide +kernel, by decide +kernel, by decide +kernel⟩, by decide +kernel, by decide +kernel, zix1 5 rfl rfl, by decide⟩
set_option maxRecDepth 100000 in
theorem zm_M_stepTo : zmP m_M_stepTo := ⟨zixd 105 rfl rfl, ⟨by decide +kernel, by decide +kernel, by decide +kernel⟩, by decide +kernel, by decide +kernel, zix1 5 rfl rfl, by decide⟩
set_option maxRecDepth 100000 in
theorem zm_M_again : zmP m_M_again := ⟨zixd 109 rfl rfl, ⟨by decide +kernel, by decide +kernel, by decide +kernel⟩, by decide +kernel, by decide +kernel, zix1 5 rfl rfl, by decide⟩
set_option maxRecDepth 100000 in
theorem zm_M_image : zmP m_M_image := ⟨zixd 113 rfl rfl, ⟨by decide +kernel, by decide +kernel, by decide +kernel⟩, by decide +kernel, by decide +kernel, zix1 5 rfl rfl, by decide⟩
set_option maxRecDepth 100000 in
theorem zm_M_restore : zmP m_M_restore := ⟨zixd 117 rfl rfl, ⟨by decide +kernel, by decide +kernel, by decide +kernel⟩, by decide +kernel, by decide +kernel, zix1 5 rfl rfl, by decide⟩
set_option maxRecDepth 100000 in
theorem zm_M_back : zmP m_M_back := ⟨zixd 121 rfl rfl, ⟨by decide +kernel, by decide +kernel, by decide +kernel⟩, by decide +kernel, by decide +kernel, zix1 5 rfl rfl, by decide⟩
set_option maxRecDepth 100000 in
theorem zm_M_personOf : zmP m_M_personOf := ⟨zixd 125 rfl rfl, ⟨by decide +kernel, by decide +kernel, by decide +kernel⟩, by decide +kernel, by decide +kernel, zix1 5 rfl rfl, by decide⟩
set_option maxRecDepth 100000 in
theorem zm_M_person : zmP m_M_person := ⟨zixd 130 rfl rfl, ⟨by decide +kernel, by decide +kernel, by decide +kernel⟩, by decide +kernel, by decide +kernel, zix1 5 rfl rfl, by decide⟩
set_option maxRecDepth 100000 in
theorem zm_M_wrongNumber : zmP m_M_wrongNumber := ⟨zixd 133 rfl rfl, ⟨by decide +kernel, by decide +kernel, by decide +kernel⟩, by decide +kernel, by decide +kernel, zix1 5 rfl rfl, by decide⟩
set_option maxRecDepth 100000 in
theorem zm_M_isCell : zmP m_M_isCell := ⟨zixd 136 rfl rfl, ⟨by decide +kernel, by decide +kernel, by decide +kernel⟩, by decide +kernel, by decide +kernel, zix1 5 rfl rfl, by decide⟩
set_option maxRecDepth 100000 in
theorem zm_M_turns : zmP m_M_turns := ⟨zixd 142 rfl rfl, ⟨by decide +kernel, by decide +kernel, by decide +kernel⟩, by decide +kernel, by decide +kernel, zix1 5 rfl rfl, by decide⟩
set_option maxRecDepth 100000 in
theorem zm_M_keepTurn : zmP m_M_keepTurn := ⟨zixd 146 rfl rfl, ⟨by decide +kernel, by decide +kernel, by decide +kernel⟩, by decide +kernel, by decide +kernel, zix1 5 rfl rfl, by decide⟩
set_option maxRecDepth 100000 in
theorem zm_M_stands : zmP m_M_stands := ⟨zixd 150 rfl rfl, ⟨by decide +kernel, by decide +kernel, by decide +kernel⟩, by decide +kernel, by decide +kernel, zix1 5 rfl rfl, by decide⟩
set_option maxRecDepth 100000 in
theorem zm_M_nights : zmP m_M_nights := ⟨zixd 154 rfl rfl, ⟨by decide +kernel, by decide +kernel, by decide +kernel⟩, by decide +kernel, by decide +kernel, zix1 5 rfl rfl, by decide⟩
set_option maxRecDepth 100000 in
theorem zm_M_allOfStarts : zmP m_M_allOfStarts := ⟨zixd 158 rfl rfl, ⟨by decide +kernel, by decide +kernel, by decide +kernel⟩, by decide +kernel, by decide +kernel, zix1 5 rfl rfl, by decide⟩
set_option maxRecDepth 100000 in
theorem zm_M_behind : zmP m_M_behind := ⟨zixd 162 rfl rfl, ⟨by decide +kernel, by decide +kernel, by decide +kernel⟩, by decide +kernel, by decide +kernel, zix1 5 rfl rfl, by decide⟩
set_option maxRecDepth 100000 in
theorem zm_M_wrongBit : zmP m_M_wrongBit := ⟨zixd 165 rfl rfl, ⟨by decide +kernel, by decide +kernel, by decide +kernel⟩, by decide +kernel, by decide +kernel, zix1 5 rfl rfl, by decide⟩
set_option maxRecDepth 100000 in
theorem zm_M_watchersOf : zmP m_M_watchersOf := ⟨zixd 169 rfl rfl, ⟨by decide +kernel, by decide +kernel, by decide +kernel⟩, by decide +kernel, by decide +kernel, zix1 5 rfl rfl, by decide⟩
set_option maxRecDepth 100000 in
theorem zm_M_allStarts : zmP m_M_allStarts := ⟨zixd 173 rfl rfl, ⟨by decide +kernel, by decide +kernel, by decide +kernel⟩, by decide +kernel, by decide +kernel, zix1 5 rfl rfl, by decide⟩
set_option maxRecDepth 100000 in
theorem zm_M_first : zmP m_M_first := ⟨zixd 177 rfl rfl, ⟨by decide +kernel, by decide +kernel, by decide +kernel⟩, by decide +kernel, by decide +kernel, zix1 5 rfl rfl, by decide⟩
set_option maxRecDepth 100000 in
theorem zm_M_still : zmP m_M_still := ⟨zixd 181 rfl rfl, ⟨by decide +kernel, by decide +kernel, by decide +kernel⟩, by decide +kernel, by decide +kernel, zix1 5 rfl rfl, by decide⟩
set_option maxRecDepth 100000 in
theorem zm_M_unseen : zmP m_M_unseen := ⟨zixd 185 rfl rfl, ⟨by decide +kernel, by decide +kernel, by decide +kernel⟩, by decide +kernel, by decide +kernel, zix1 5 rfl rfl, by decide⟩
set_option maxRecDepth 100000 in
theorem zm_M_chain : zmP m_M_chain := ⟨zixd 189 rfl rfl, ⟨by decide +kernel, by decide +kernel, by decide +kernel⟩, by decide +kernel, by decide +kernel, zix1 5 rfl rfl, by decide⟩
set_option maxRecDepth 100000 in
theorem zm_M_chainFrom : zmP m_M_chainFrom := ⟨zixd 193 rfl rfl, ⟨by decide +kernel, by decide +kernel, by decide +kernel⟩, by decide +kernel, by decide +kernel, zix1 5 rfl rfl, by decide⟩
set_option maxRecDepth 100000 in
theorem zm_M_hasBit : zmP m_M_hasBit := ⟨zixd 196 rfl rfl, ⟨by decide +kernel, by decide +kernel, by decide +kernel⟩, by decide +kernel, by decide +kernel, zix1 5 rfl rfl, by decide⟩
set_option maxRecDepth 100000 in
theorem zm_M_onesOf : zmP m_M_onesOf := ⟨zixd 199 rfl rfl, ⟨by decide +kernel, by decide +kernel, by decide +kernel⟩, by decide +kernel, by decide +kernel, zix1 5 rfl rfl, by decide⟩
set_option maxRecDepth 100000 in
theorem zm_M_deepest : zmP m_M_deepest := ⟨zixd 203 rfl rfl, ⟨by decide +kernel, by decide +kernel, by decide +kernel⟩, by decide +kernel, by decide +kernel, zix1 5 rfl rfl, by decide⟩
set_option maxRecDepth 100000 in
theorem zm_M_knows : zmP m_M_knows := ⟨zixd 207 rfl rfl, ⟨by decide +kernel, by decide +kernel, by decide +kernel⟩, by decide +kernel, by decide +kernel, zix1 5 rfl rfl, by decide⟩
set_option maxRecDepth 100000 in
theorem zm_M_safe : zmP m_M_safe := ⟨zixd 211 rfl rfl, ⟨by decide +kernel, by decide +kernel, by decide +kernel⟩, by decide +kernel, by decide +kernel, zix1 5 rfl rfl, by decide⟩
set_option maxRecDepth 100000 in
theorem zm_M_alone : zmP m_M_alone := ⟨zixd 215 rfl rfl, ⟨by decide +kernel, by decide +kernel, by decide +kernel⟩, by decide +kernel, by decide +kernel, zix1 5 rfl rfl, by decide⟩
set_option maxRecDepth 100000 in
theorem zm_M_turnAll : zmP m_M_turnAll := ⟨zixd 219 rfl rfl, ⟨by decide +kernel, by decide +kernel, by decide +kernel⟩, by decide +kernel, by decide +kernel, zix1 5 rfl rfl, by decide⟩
set_option maxRecDepth 100000 in
theorem zm_M_post : zmP m_M_post := ⟨zixd 223 rfl rfl, ⟨by decide +kernel, by decide +kernel, by decide +kernel⟩, by decide +kernel, by decide +kernel, zix1 5 rfl rfl, by decide⟩
set_option maxRecDepth 100000 in
theorem zm_M_which : zmP m_M_which := ⟨zixd 227 rfl rfl, ⟨by decide +kernel, by decide +kernel, by decide +kernel⟩, by decide +kernel, by decide +kernel, zix1 5 rfl rfl, by decide⟩
set_option maxRecDepth 100000 in
theorem zm_M_isRow : zmP m_M_isRow := ⟨zixd 231 rfl rfl, ⟨by decide +kernel, by decide +kernel, by decide +kernel⟩, by decide +kernel, by decide +kernel, zix1 5 rfl rfl, by decide⟩
set_option maxRecDepth 100000 in
theorem zm_M_bestStep : zmP m_M_bestStep := ⟨zixd 235 rfl rfl, ⟨by decide +kernel, by decide +kernel, by decide +kernel⟩, by decide +kernel, by decide +kernel, zix1 5 rfl rfl, by decide⟩
set_option maxRecDepth 100000 in
theorem zm_M_stepFrom : zmP m_M_stepFrom := ⟨zixd 239 rfl rfl, ⟨by decide +kernel, by decide +kernel, by decide +kernel⟩, by decide +kernel, by decide +kernel, zix1 5 rfl rfl, by decide⟩
set_option maxRecDepth 100000 in
theorem zm_M_two : zmP m_M_two := ⟨zixe 3 rfl rfl, ⟨by decide +kernel, by decide +kernel, by decide +kernel⟩, by decide +kernel, by decide +kernel, zix1 5 rfl rfl, by decide⟩
set_option maxRecDepth 100000 in
theorem zm_M_areTwo : zmP m_M_areTwo := ⟨zixe 7 rfl rfl, ⟨by decide +kernel, by decide +kernel, by decide +kernel⟩, by decide +kernel, by decide +kernel, zix1 5 rfl rfl, by decide⟩
set_option maxRecDepth 100000 in
theorem zm_M_areResting : zmP m_M_areResting := ⟨zixe 11 rfl rfl, ⟨by decide +kernel, by decide +kernel, by decide +kernel⟩, by decide +kernel, by decide +kernel, zix1 5 rfl rfl, by decide⟩
set_option maxRecDepth 100000 in
theorem zm_M_slept : zmP m_M_slept := ⟨zixe 15 rfl rfl, ⟨by decide +kernel, by decide +kernel, by decide +kernel⟩, by decide +kernel, by decide +kernel, zix1 5 rfl rfl, by decide⟩
set_option maxRecDepth 100000 in
theorem zm_M_partOf : zmP m_M_partOf := ⟨zixe 19 rfl rfl, ⟨by decide +kernel, by decide +kernel, by decide +kernel⟩, by decide +kernel, by decide +kernel, zix1 5 rfl rfl, by decide⟩
set_option maxRecDepth 100000 in
theorem zm_M_divisor : zmP m_M_divisor := ⟨zixe 22 rfl rfl, ⟨by decide +kernel, by decide +kernel, by decide +kernel⟩, by decide +kernel, by decide +kernel, zix1 5 rfl rfl, by decide⟩
set_option maxRecDepth 100000 in
theorem zm_M_busiest : zmP m_M_busiest := ⟨zixe 26 rfl rfl, ⟨by decide +kernel, by decide +kernel, by decide +kernel⟩, by decide +kernel, by decide +kernel, zix1 5 rfl rfl, by decide⟩
set_option maxRecDepth 100000 in
theorem zm_M_twos : zmP m_M_twos := ⟨zixe 30 rfl rfl, ⟨by decide +kernel, by decide +kernel, by decide +kernel⟩, by decide +kernel, by decide +kernel, zix1 5 rfl rfl, by decide⟩
set_option maxRecDepth 100000 in
theorem zm_M_nearest : zmP m_M_nearest := ⟨zixe 34 rfl rfl, ⟨by decide +kernel, by decide +kernel, by decide +kernel⟩, by decide +kernel, by decide +kernel, zix1 5 rfl rfl, by decide⟩
set_option maxRecDepth 100000 in
theorem zm_M_apart : zmP m_M_apart := ⟨zixe 37 rfl rfl, ⟨by decide +kernel, by decide +kernel, by decide +kernel⟩, by decide +kernel, by decide +kernel, zix1 5 rfl rfl, by decide⟩
set_option maxRecDepth 100000 in
theorem zm_M_lines : zmP m_M_lines := ⟨zixe 41 rfl rfl, ⟨by decide +kernel, by decide +kernel, by decide +kernel⟩, by decide +kernel, by decide +kernel, zix1 5 rfl rfl, by decide⟩
set_option maxRecDepth 100000 in
theorem zm_M_hidden : zmP m_M_hidden := ⟨zixe 45 rfl rfl, ⟨by decide +kernel, by decide +kernel, by decide +kernel⟩, by decide +kernel, by decide +kernel, zix1 5 rfl rfl, by decide⟩
set_option maxRecDepth 100000 in
theorem zm_M_longest : zmP m_M_longest := ⟨zixe 49 rfl rfl, ⟨by decide +kernel, by decide +kernel, by decide +kernel⟩, by decide +kernel, by decide +kernel, zix1 5 rfl rfl, by decide⟩
set_option maxRecDepth 100000 in
theorem zm_M_walks : zmP m_M_walks := ⟨zixe 53 rfl rfl, ⟨by decide +kernel, by decide +kernel, by decide +kernel⟩, by decide +kernel, by decide +kernel, zix1 5 rfl rfl, by decide⟩
set_option maxRecDepth 100000 in
theorem zm_M_meets : zmP m_M_meets := ⟨zixe 57 rfl rfl, ⟨by decide +kernel, by decide +kernel, by decide +kernel⟩, by decide +kernel, by decide +kernel, zix1 5 rfl rfl, by decide⟩
set_option maxRecDepth 100000 in
theorem zm_M_leave : zmP m_M_leave := ⟨zixe 61 rfl rfl, ⟨by decide +kernel, by decide +kernel, by decide +kernel⟩, by decide +kernel, by decide +kernel, zix1 5 rfl rfl, by decide⟩
set_option maxRecDepth 100000 in
theorem zm_M_most : zmP m_M_most := ⟨zixe 65 rfl rfl, ⟨by decide +kernel, by decide +kernel, by decide +kernel⟩, by decide +kernel, by decide +kernel, zix1 5 rfl rfl, by decide⟩
set_option maxRecDepth 100000 in
theorem zm_M_quiet : zmP m_M_quiet := ⟨zixe 69 rfl rfl, ⟨by decide +kernel, by decide +kernel, by decide +kernel⟩, by decide +kernel, by decide +kernel, zix1 5 rfl rfl, by decide⟩
set_option maxRecDepth 100000 in
theorem zm_M_row : zmP m_M_row := ⟨zixe 73 rfl rfl, ⟨by decide +kernel, by decide +kernel, by decide +kernel⟩, by decide +kernel, by decide +kernel, zix1 5 rfl rfl, by decide⟩
set_option maxRecDepth 100000 in
theorem zm_M_judge : zmP m_M_judge := ⟨zixe 77 rfl rfl, ⟨by decide +kernel, by decide +kernel, by decide +kernel⟩, by decide +kernel, by decide +kernel, zix1 5 rfl rfl, by decide⟩
set_option maxRecDepth 100000 in
theorem zm_M_clear : zmP m_M_clear := ⟨zixe 81 rfl rfl, ⟨by decide +kernel, by decide +kernel, by decide +kernel⟩, by decide +kernel, by decide +kernel, zix1 5 rfl rfl, by decide⟩
set_option maxRecDepth 100000 in
theorem zm_M_lots : zmP m_M_lots := ⟨zixe 85 rfl rfl, ⟨by decide +kernel, by decide +kernel, by decide +kernel⟩, by decide +kernel, by decide +kernel, zix1 5 rfl rfl, by decide⟩
set_option maxRecDepth 100000 in
theorem zm_M_drawBelow : zmP m_M_drawBelow := ⟨zixe 89 rfl rfl, ⟨by decide +kernel, by decide +kernel, by decide +kernel⟩, by decide +kernel, by decide +kernel, zix1 5 rfl rfl, by decide⟩
set_option maxRecDepth 100000 in
theorem zm_M_count : zmP m_M_count := ⟨zixe 96 rfl rfl, ⟨by decide +kernel, by decide +kernel, by decide +kernel⟩, by decide +kernel, by decide +kernel, zix1 5 rfl rfl, by decide⟩
def zmtK (o ix : Nat) (m : zM) : Nat → Prop
  | 0 => Jvm.Cond.methodLink (zcn o) ix (zn m) ∈ zTs ∧ Jvm.Cond.instanceMethod (zn m) ∈ zTs ∧ Jvm.Cond.selects (zcn (zo m)) (zn m) (zn m) ∈ zTs ∧ zo m < 5
  | 1 => Jvm.Cond.methodLinkNest (zcn o) ix (zn m) "SeenFromBehind" ∈ zTs ∧ Jvm.Cond.instanceMethod (zn m) ∈ zTs ∧ Jvm.Cond.selects (zcn (zo m)) (zn m) (zn m) ∈ zTs ∧ zo m < 5
  | 2 => Jvm.Cond.methodLink (zcn o) ix (zn m) ∈ zTs ∧ Jvm.Cond.static (zn m) ∈ zTs
  | 3 => Jvm.Cond.methodLinkNest (zcn o) ix (zn m) "SeenFromBehind" ∈ zTs ∧ Jvm.Cond.static (zn m) ∈ zTs
  | 4 => Jvm.Cond.methodLink (zcn o) ix (zn m) ∈ zTs ∧ Jvm.Cond.instanceMethod (zn m) ∈ zTs ∧ (zn m).name = "<init>" ∧ zrt m = none
  | 5 => Jvm.Cond.methodLinkNest (zcn o) ix (zn m) "SeenFromBehind" ∈ zTs ∧ Jvm.Cond.instanceMethod (zn m) ∈ zTs ∧ (zn m).name = "<init>" ∧ zrt m = none
  | _ => False
def zmtP (q : Nat × Nat × Nat × zM) : Prop := zmP q.2.2.2 ∧ zmtK q.1 q.2.1 q.2.2.2 q.2.2.1
set_option maxRecDepth 100000 in
theorem zmt_ok_0 : zmtP (0, 40, 3, m_X_at) := ⟨zm_X_at, zix1 156 rfl rfl, zix1 130 rfl rfl⟩
set_option maxRecDepth 100000 in
theorem zmt_ok_1 : zmtP (0, 44, 3, m_X_put) := ⟨zm_X_put, zix1 157 rfl rfl, zix1 133 rfl rfl⟩
set_option maxRecDepth 100000 in
theorem zmt_ok_2 : zmtP (0, 48, 3, m_X_bitOf) := ⟨zm_X_bitOf, zixb 9 rfl rfl, zixb 10 rfl rfl⟩
set_option maxRecDepth 100000 in
theorem zmt_ok_3 : zmtP (0, 52, 3, m_X_reach) := ⟨zm_X_reach, zixb 27 rfl rfl, zixb 28 rfl rfl⟩
set_option maxRecDepth 100000 in
theorem zmt_ok_4 : zmtP (0, 56, 3, m_X_depth) := ⟨zm_X_depth, zix1 239 rfl rfl, zixb 0 rfl rfl⟩
set_option maxRecDepth 100000 in
theorem zmt_ok_5 : zmtP (0, 59, 0, m_H_whoIsAt) := ⟨zm_H_whoIsAt, zix1 190 rfl rfl, zix1 192 rfl rfl, zix2 9 rfl rfl, by decide⟩
set_option maxRecDepth 100000 in
theorem zmt_ok_6 : zmtP (0, 62, 3, m_X_rowOf) := ⟨zm_X_rowOf, zixc 44 rfl rfl, zixc 45 rfl rfl⟩
set_option maxRecDepth 100000 in
theorem zmt_ok_7 : zmtP (0, 70, 3, m_X_columnOf) := ⟨zm_X_columnOf, zixc 50 rfl rfl, zixc 51 rfl rfl⟩
set_option maxRecDepth 100000 in
theorem zmt_ok_8 : zmtP (0, 73, 3, m_X_cellBeside) := ⟨zm_X_cellBeside, zixb 6 rfl rfl, zixb 7 rfl rfl⟩
set_option maxRecDepth 100000 in
theorem zmt_ok_9 : zmtP (0, 76, 0, m_H_isFree) := ⟨zm_H_isFree, zixb 38 rfl rfl, zix1 188 rfl rfl, zix2 8 rfl rfl, by decide⟩
set_option maxRecDepth 100000 in
theorem zmt_ok_10 : zmtP (0, 80, 0, m_H_reachOf) := ⟨zm_H_reachOf, zixb 23 rfl rfl, zixb 25 rfl rfl, zix2 22 rfl rfl, by decide⟩
set_option maxRecDepth 100000 in
theorem zmt_ok_11 : zmtP (0, 83, 0, m_H_nextTo) := ⟨zm_H_nextTo, zixb 2 rfl rfl, zixb 4 rfl rfl, zix2 19 rfl rfl, by decide⟩
set_option maxRecDepth 100000 in
theorem zmt_ok_12 : zmtP (0, 87, 3, m_X_turned) := ⟨zm_X_turned, zix1 232 rfl rfl, zix1 233 rfl rfl⟩
set_option maxRecDepth 100000 in
theorem zmt_ok_13 : zmtP (0, 90, 0, m_H_depthOf) := ⟨zm_H_depthOf, zix1 235 rfl rfl, zix1 237 rfl rfl, zix2 18 rfl rfl, by decide⟩
set_option maxRecDepth 100000 in
theorem zmt_ok_14 : zmtP (0, 93, 0, m_H_ahead) := ⟨zm_H_ahead, zixb 19 rfl rfl, zixb 21 rfl rfl, zix2 21 rfl rfl, by decide⟩
set_option maxRecDepth 100000 in
theorem zmt_ok_15 : zmtP (0, 96, 0, m_H_inLens) := ⟨zm_H_inLens, zix1 228 rfl rfl, zix1 230 rfl rfl, zix2 17 rfl rfl, by decide⟩
set_option maxRecDepth 100000 in
theorem zmt_ok_16 : zmtP (0, 99, 0, m_H_nightWithout) := ⟨zm_H_nightWithout, zix1 224 rfl rfl, zix1 226 rfl rfl, zix2 16 rfl rfl, by decide⟩
set_option maxRecDepth 100000 in
theorem zmt_ok_17 : zmtP (0, 106, 0, m_H_stirs) := ⟨zm_H_stirs, zixb 15 rfl rfl, zixb 17 rfl rfl, zix2 20 rfl rfl, by decide⟩
set_option maxRecDepth 100000 in
theorem zmt_ok_18 : zmtP (0, 110, 0, m_H_turnsBy) := ⟨zm_H_turnsBy, zixb 30 rfl rfl, zixb 32 rfl rfl, zix2 23 rfl rfl, by decide⟩
set_option maxRecDepth 100000 in
theorem zmt_ok_19 : zmtP (0, 113, 0, m_H_stepsTo) := ⟨zm_H_stepsTo, zixb 34 rfl rfl, zixb 36 rfl rfl, zix2 24 rfl rfl, by decide⟩
set_option maxRecDepth 100000 in
theorem zmt_ok_20 : zmtP (1, 24, 5, m_H_init) := ⟨zm_H_init, zix1 64 rfl rfl, zix1 19 rfl rfl, rfl, rfl⟩
set_option maxRecDepth 100000 in
theorem zmt_ok_21 : zmtP (1, 25, 0, m_P_placeAt) := ⟨zm_P_placeAt, zixb 91 rfl rfl, zixb 93 rfl rfl, zix2 33 rfl rfl, by decide⟩
set_option maxRecDepth 100000 in
theorem zmt_ok_22 : zmtP (1, 29, 1, m_H_become) := ⟨zm_H_become, zixb 95 rfl rfl, zix1 154 rfl rfl, zix2 3 rfl rfl, by decide⟩
set_option maxRecDepth 100000 in
theorem zmt_ok_23 : zmtP (2, 19, 3, m_X_put) := ⟨zm_X_put, zix1 139 rfl rfl, zix1 133 rfl rfl⟩
set_option maxRecDepth 100000 in
theorem zmt_ok_24 : zmtP (2, 23, 3, m_X_at) := ⟨zm_X_at, zix1 148 rfl rfl, zix1 130 rfl rfl⟩
set_option maxRecDepth 100000 in
theorem zmt_ok_25 : zmtP (2, 27, 2, m_T_digitsBehind) := ⟨zm_T_digitsBehind, zix1 149 rfl rfl, zix1 150 rfl rfl⟩
set_option maxRecDepth 100000 in
theorem zmt_ok_26 : zmtP (2, 31, 0, m_T_digit) := ⟨zm_T_digit, zix1 166 rfl rfl, zix1 168 rfl rfl, zix2 6 rfl rfl, by decide⟩
set_option maxRecDepth 100000 in
theorem zmt_ok_27 : zmtP (2, 34, 0, m_T_number) := ⟨zm_T_number, zix1 170 rfl rfl, zix1 172 rfl rfl, zix2 7 rfl rfl, by decide⟩
set_option maxRecDepth 100000 in
theorem zmt_ok_28 : zmtP (2, 37, 2, m_T_joins) := ⟨zm_T_joins, zix1 174 rfl rfl, zix1 175 rfl rfl⟩
set_option maxRecDepth 100000 in
theorem zmt_ok_29 : zmtP (2, 41, 2, m_T_facesSo) := ⟨zm_T_facesSo, zix1 198 rfl rfl, zix1 199 rfl rfl⟩
set_option maxRecDepth 100000 in
theorem zmt_ok_30 : zmtP (2, 45, 2, m_T_changesCell) := ⟨zm_T_changesCell, zix1 209 rfl rfl, zix1 210 rfl rfl⟩
set_option maxRecDepth 100000 in
theorem zmt_ok_31 : zmtP (2, 48, 1, m_H_hasRoomFor) := ⟨zm_H_hasRoomFor, zix1 216 rfl rfl, zix1 218 rfl rfl, zix2 14 rfl rfl, by decide⟩
set_option maxRecDepth 100000 in
theorem zmt_ok_32 : zmtP (2, 54, 1, m_H_pass) := ⟨zm_H_pass, zix1 220 rfl rfl, zix1 222 rfl rfl, zix2 15 rfl rfl, by decide⟩
set_option maxRecDepth 100000 in
theorem zmt_ok_33 : zmtP (2, 58, 3, m_X_isKind) := ⟨zm_X_isKind, zix1 177 rfl rfl, zix1 178 rfl rfl⟩
set_option maxRecDepth 100000 in
theorem zmt_ok_34 : zmtP (2, 61, 3, m_X_isCell) := ⟨zm_X_isCell, zix1 180 rfl rfl, zix1 181 rfl rfl⟩
set_option maxRecDepth 100000 in
theorem zmt_ok_35 : zmtP (2, 64, 3, m_X_isWay) := ⟨zm_X_isWay, zix1 183 rfl rfl, zix1 184 rfl rfl⟩
set_option maxRecDepth 100000 in
theorem zmt_ok_36 : zmtP (2, 68, 1, m_H_isFree) := ⟨zm_H_isFree, zix1 186 rfl rfl, zix1 188 rfl rfl, zix2 8 rfl rfl, by decide⟩
set_option maxRecDepth 100000 in
theorem zmt_ok_37 : zmtP (2, 71, 1, m_H_join) := ⟨zm_H_join, zix1 194 rfl rfl, zix1 196 rfl rfl, zix2 10 rfl rfl, by decide⟩
set_option maxRecDepth 100000 in
theorem zmt_ok_38 : zmtP (2, 75, 1, m_H_has) := ⟨zm_H_has, zix1 201 rfl rfl, zix1 203 rfl rfl, zix2 11 rfl rfl, by decide⟩
set_option maxRecDepth 100000 in
theorem zmt_ok_39 : zmtP (2, 78, 1, m_H_face) := ⟨zm_H_face, zix1 205 rfl rfl, zix1 207 rfl rfl, zix2 12 rfl rfl, by decide⟩
set_option maxRecDepth 100000 in
theorem zmt_ok_40 : zmtP (2, 82, 1, m_H_place) := ⟨zm_H_place, zix1 212 rfl rfl, zix1 214 rfl rfl, zix2 13 rfl rfl, by decide⟩
set_option maxRecDepth 100000 in
theorem zmt_ok_41 : zmtP (3, 9, 5, m_H_init) := ⟨zm_H_init, zix1 18 rfl rfl, zix1 19 rfl rfl, rfl, rfl⟩
set_option maxRecDepth 100000 in
theorem zmt_ok_42 : zmtP (3, 32, 5, m_P_init) := ⟨zm_P_init, zix1 59 rfl rfl, zix1 60 rfl rfl, rfl, rfl⟩
set_option maxRecDepth 100000 in
theorem zmt_ok_43 : zmtP (3, 39, 5, m_T_init) := ⟨zm_T_init, zix1 78 rfl rfl, zix1 79 rfl rfl, rfl, rfl⟩
set_option maxRecDepth 100000 in
theorem zmt_ok_44 : zmtP (3, 55, 0, m_X_refuse) := ⟨zm_X_refuse, zix1 125 rfl rfl, zix1 127 rfl rfl, zix2 0 rfl rfl, by decide⟩
set_option maxRecDepth 100000 in
theorem zmt_ok_45 : zmtP (3, 62, 1, m_T_append) := ⟨zm_T_append, zix1 135 rfl rfl, zix1 137 rfl rfl, zix2 1 rfl rfl, by decide⟩
set_option maxRecDepth 100000 in
theorem zmt_ok_46 : zmtP (3, 65, 1, m_T_wrongPlace) := ⟨zm_T_wrongPlace, zix1 144 rfl rfl, zix1 146 rfl rfl, zix2 2 rfl rfl, by decide⟩
set_option maxRecDepth 100000 in
theorem zmt_ok_47 : zmtP (3, 69, 1, m_H_become) := ⟨zm_H_become, zix1 152 rfl rfl, zix1 154 rfl rfl, zix2 3 rfl rfl, by decide⟩
set_option maxRecDepth 100000 in
theorem zmt_ok_48 : zmtP (3, 73, 1, m_T_beginsStatement) := ⟨zm_T_beginsStatement, zix1 158 rfl rfl, zix1 160 rfl rfl, zix2 4 rfl rfl, by decide⟩
set_option maxRecDepth 100000 in
theorem zmt_ok_49 : zmtP (3, 77, 1, m_T_comesTo) := ⟨zm_T_comesTo, zix1 162 rfl rfl, zix1 164 rfl rfl, zix2 5 rfl rfl, by decide⟩
set_option maxRecDepth 100000 in
theorem zmt_ok_50 : zmtP (3, 81, 1, m_T_forget) := ⟨zm_T_forget, zixb 39 rfl rfl, zixb 41 rfl rfl, zix2 25 rfl rfl, by decide⟩
set_option maxRecDepth 100000 in
theorem zmt_ok_51 : zmtP (3, 84, 1, m_P_forget) := ⟨zm_P_forget, zixb 43 rfl rfl, zixb 45 rfl rfl, zix2 26 rfl rfl, by decide⟩
set_option maxRecDepth 100000 in
theorem zmt_ok_52 : zmtP (3, 85, 1, m_H_has) := ⟨zm_H_has, zixb 51 rfl rfl, zix1 203 rfl rfl, zix2 11 rfl rfl, by decide⟩
set_option maxRecDepth 100000 in
theorem zmt_ok_53 : zmtP (3, 88, 1, m_H_kindOf) := ⟨zm_H_kindOf, zixb 52 rfl rfl, zixb 54 rfl rfl, zix2 27 rfl rfl, by decide⟩
set_option maxRecDepth 100000 in
theorem zmt_ok_54 : zmtP (3, 91, 1, m_H_figureOf) := ⟨zm_H_figureOf, zixb 56 rfl rfl, zixb 58 rfl rfl, zix2 28 rfl rfl, by decide⟩
set_option maxRecDepth 100000 in
theorem zmt_ok_55 : zmtP (3, 94, 1, m_H_cellOf) := ⟨zm_H_cellOf, zixb 60 rfl rfl, zixb 62 rfl rfl, zix2 29 rfl rfl, by decide⟩
set_option maxRecDepth 100000 in
theorem zmt_ok_56 : zmtP (3, 97, 1, m_H_facesOf) := ⟨zm_H_facesOf, zixb 64 rfl rfl, zixb 66 rfl rfl, zix2 30 rfl rfl, by decide⟩
set_option maxRecDepth 100000 in
theorem zmt_ok_57 : zmtP (3, 100, 1, m_H_startsOf) := ⟨zm_H_startsOf, zixb 68 rfl rfl, zixb 70 rfl rfl, zix2 31 rfl rfl, by decide⟩
set_option maxRecDepth 100000 in
theorem zmt_ok_58 : zmtP (3, 103, 1, m_H_reachOf) := ⟨zm_H_reachOf, zixb 72 rfl rfl, zixb 25 rfl rfl, zix2 22 rfl rfl, by decide⟩
set_option maxRecDepth 100000 in
theorem zmt_ok_59 : zmtP (3, 106, 1, m_H_depthOf) := ⟨zm_H_depthOf, zixb 73 rfl rfl, zix1 237 rfl rfl, zix2 18 rfl rfl, by decide⟩
set_option maxRecDepth 100000 in
theorem zmt_ok_60 : zmtP (3, 109, 2, m_X_isKind) := ⟨zm_X_isKind, zixb 78 rfl rfl, zix1 178 rfl rfl⟩
set_option maxRecDepth 100000 in
theorem zmt_ok_61 : zmtP (3, 113, 2, m_X_isCell) := ⟨zm_X_isCell, zixb 79 rfl rfl, zix1 181 rfl rfl⟩
set_option maxRecDepth 100000 in
theorem zmt_ok_62 : zmtP (3, 116, 2, m_X_isWay) := ⟨zm_X_isWay, zixb 80 rfl rfl, zix1 184 rfl rfl⟩
set_option maxRecDepth 100000 in
theorem zmt_ok_63 : zmtP (3, 119, 1, m_H_isFree) := ⟨zm_H_isFree, zixb 81 rfl rfl, zix1 188 rfl rfl, zix2 8 rfl rfl, by decide⟩
set_option maxRecDepth 100000 in
theorem zmt_ok_64 : zmtP (3, 122, 1, m_H_join) := ⟨zm_H_join, zixb 82 rfl rfl, zix1 196 rfl rfl, zix2 10 rfl rfl, by decide⟩
set_option maxRecDepth 100000 in
theorem zmt_ok_65 : zmtP (3, 126, 1, m_P_keep) := ⟨zm_P_keep, zixb 87 rfl rfl, zixb 89 rfl rfl, zix2 32 rfl rfl, by decide⟩
set_option maxRecDepth 100000 in
theorem zmt_ok_66 : zmtP (3, 129, 1, m_H_face) := ⟨zm_H_face, zixb 97 rfl rfl, zix1 207 rfl rfl, zix2 12 rfl rfl, by decide⟩
set_option maxRecDepth 100000 in
theorem zmt_ok_67 : zmtP (3, 133, 1, m_H_place) := ⟨zm_H_place, zixb 102 rfl rfl, zix1 214 rfl rfl, zix2 13 rfl rfl, by decide⟩
set_option maxRecDepth 100000 in
theorem zmt_ok_68 : zmtP (3, 136, 1, m_H_hasRoomFor) := ⟨zm_H_hasRoomFor, zixb 107 rfl rfl, zix1 218 rfl rfl, zix2 14 rfl rfl, by decide⟩
set_option maxRecDepth 100000 in
theorem zmt_ok_69 : zmtP (3, 139, 1, m_H_pass) := ⟨zm_H_pass, zixb 108 rfl rfl, zix1 222 rfl rfl, zix2 15 rfl rfl, by decide⟩
set_option maxRecDepth 100000 in
theorem zmt_ok_70 : zmtP (3, 143, 1, m_H_startsTogether) := ⟨zm_H_startsTogether, zixb 109 rfl rfl, zixb 111 rfl rfl, zix2 34 rfl rfl, by decide⟩
set_option maxRecDepth 100000 in
theorem zmt_ok_71 : zmtP (3, 147, 1, m_P_giveBack) := ⟨zm_P_giveBack, zixb 117 rfl rfl, zixb 119 rfl rfl, zix2 35 rfl rfl, by decide⟩
set_option maxRecDepth 100000 in
theorem zmt_ok_72 : zmtP (3, 151, 0, m_X_wrongNights) := ⟨zm_X_wrongNights, zixb 125 rfl rfl, zixb 127 rfl rfl, zix2 36 rfl rfl, by decide⟩
set_option maxRecDepth 100000 in
theorem zmt_ok_73 : zmtP (3, 155, 0, m_X_lookAhead) := ⟨zm_X_lookAhead, zixb 129 rfl rfl, zixb 131 rfl rfl, zix2 37 rfl rfl, by decide⟩
set_option maxRecDepth 100000 in
theorem zmt_ok_74 : zmtP (3, 158, 1, m_H_ahead) := ⟨zm_H_ahead, zixb 134 rfl rfl, zixb 21 rfl rfl, zix2 21 rfl rfl, by decide⟩
set_option maxRecDepth 100000 in
theorem zmt_ok_75 : zmtP (3, 161, 1, m_H_inLens) := ⟨zm_H_inLens, zixb 135 rfl rfl, zix1 230 rfl rfl, zix2 17 rfl rfl, by decide⟩
set_option maxRecDepth 100000 in
theorem zmt_ok_76 : zmtP (3, 164, 1, m_H_watchers) := ⟨zm_H_watchers, zixb 136 rfl rfl, zixb 138 rfl rfl, zix2 38 rfl rfl, by decide⟩
set_option maxRecDepth 100000 in
theorem zmt_ok_77 : zmtP (3, 167, 0, m_X_wrongWhat) := ⟨zm_X_wrongWhat, zixb 148 rfl rfl, zixb 150 rfl rfl, zix2 39 rfl rfl, by decide⟩
set_option maxRecDepth 100000 in
theorem zmt_ok_78 : zmtP (3, 171, 1, m_H_nightWithout) := ⟨zm_H_nightWithout, zixb 133 rfl rfl, zix1 226 rfl rfl, zix2 16 rfl rfl, by decide⟩
set_option maxRecDepth 100000 in
theorem zmt_ok_79 : zmtP (3, 177, 2, m_X_bitOf) := ⟨zm_X_bitOf, zixb 160 rfl rfl, zixb 10 rfl rfl⟩
set_option maxRecDepth 100000 in
theorem zmt_ok_80 : zmtP (3, 180, 1, m_H_everybody) := ⟨zm_H_everybody, zixb 161 rfl rfl, zixb 163 rfl rfl, zix2 40 rfl rfl, by decide⟩
set_option maxRecDepth 100000 in
theorem zmt_ok_81 : zmtP (3, 183, 1, m_H_chainOf) := ⟨zm_H_chainOf, zixb 169 rfl rfl, zixb 171 rfl rfl, zix2 41 rfl rfl, by decide⟩
set_option maxRecDepth 100000 in
theorem zmt_ok_82 : zmtP (3, 186, 1, m_H_seenBy) := ⟨zm_H_seenBy, zixb 181 rfl rfl, zixb 183 rfl rfl, zix2 42 rfl rfl, by decide⟩
set_option maxRecDepth 100000 in
theorem zmt_ok_83 : zmtP (3, 189, 1, m_H_seesAllWays) := ⟨zm_H_seesAllWays, zixb 197 rfl rfl, zixb 199 rfl rfl, zix2 43 rfl rfl, by decide⟩
set_option maxRecDepth 100000 in
theorem zmt_ok_84 : zmtP (3, 192, 1, m_H_facesToSeeUnseen) := ⟨zm_H_facesToSeeUnseen, zixb 205 rfl rfl, zixb 207 rfl rfl, zix2 44 rfl rfl, by decide⟩
set_option maxRecDepth 100000 in
theorem zmt_ok_85 : zmtP (3, 195, 1, m_H_beOfKind) := ⟨zm_H_beOfKind, zixb 213 rfl rfl, zixb 215 rfl rfl, zix2 45 rfl rfl, by decide⟩
set_option maxRecDepth 100000 in
theorem zmt_ok_86 : zmtP (3, 198, 1, m_H_beOfFigure) := ⟨zm_H_beOfFigure, zixb 217 rfl rfl, zixb 219 rfl rfl, zix2 46 rfl rfl, by decide⟩
set_option maxRecDepth 100000 in
theorem zmt_ok_87 : zmtP (3, 201, 0, m_X_turnsAsTold) := ⟨zm_X_turnsAsTold, zixb 221 rfl rfl, zixb 223 rfl rfl, zix2 47 rfl rfl, by decide⟩
set_option maxRecDepth 100000 in
theorem zmt_ok_88 : zmtP (3, 204, 1, m_H_cellOfStep) := ⟨zm_H_cellOfStep, zixb 229 rfl rfl, zixb 231 rfl rfl, zix2 48 rfl rfl, by decide⟩
set_option maxRecDepth 100000 in
theorem zmt_ok_89 : zmtP (3, 207, 2, m_J_bitCount) := ⟨zm_J_bitCount, zixb 233 rfl rfl, zixb 234 rfl rfl⟩
set_option maxRecDepth 100000 in
theorem zmt_ok_90 : zmtP (3, 212, 0, m_X_areTwo) := ⟨zm_X_areTwo, zixc 3 rfl rfl, zixc 5 rfl rfl, zix2 49 rfl rfl, by decide⟩
set_option maxRecDepth 100000 in
theorem zmt_ok_91 : zmtP (3, 216, 0, m_X_stepsSeenByFaces) := ⟨zm_X_stepsSeenByFaces, zixc 7 rfl rfl, zixc 9 rfl rfl, zix2 50 rfl rfl, by decide⟩
set_option maxRecDepth 100000 in
theorem zmt_ok_92 : zmtP (3, 219, 2, m_X_neitherHasBetter) := ⟨zm_X_neitherHasBetter, zixc 14 rfl rfl, zixc 15 rfl rfl⟩
set_option maxRecDepth 100000 in
theorem zmt_ok_93 : zmtP (3, 225, 2, m_X_waysToFace) := ⟨zm_X_waysToFace, zixc 22 rfl rfl, zixc 23 rfl rfl⟩
set_option maxRecDepth 100000 in
theorem zmt_ok_94 : zmtP (3, 229, 2, m_X_commonDivisor) := ⟨zm_X_commonDivisor, zixc 25 rfl rfl, zixc 26 rfl rfl⟩
set_option maxRecDepth 100000 in
theorem zmt_ok_95 : zmtP (3, 233, 1, m_H_cellsApart) := ⟨zm_H_cellsApart, zixc 40 rfl rfl, zixc 42 rfl rfl, zix2 51 rfl rfl, by decide⟩
set_option maxRecDepth 100000 in
theorem zmt_ok_96 : zmtP (3, 236, 2, m_X_rowOf) := ⟨zm_X_rowOf, zixc 57 rfl rfl, zixc 45 rfl rfl⟩
set_option maxRecDepth 100000 in
theorem zmt_ok_97 : zmtP (3, 239, 2, m_X_columnOf) := ⟨zm_X_columnOf, zixc 58 rfl rfl, zixc 51 rfl rfl⟩
set_option maxRecDepth 100000 in
theorem zmt_ok_98 : zmtP (3, 242, 1, m_H_nextTo) := ⟨zm_H_nextTo, zixc 63 rfl rfl, zixb 4 rfl rfl, zix2 19 rfl rfl, by decide⟩
set_option maxRecDepth 100000 in
theorem zmt_ok_99 : zmtP (3, 248, 2, m_X_put) := ⟨zm_X_put, zix1 132 rfl rfl, zix1 133 rfl rfl⟩
set_option maxRecDepth 100000 in
theorem zmt_ok_100 : zmtP (3, 252, 2, m_X_at) := ⟨zm_X_at, zix1 129 rfl rfl, zix1 130 rfl rfl⟩
set_option maxRecDepth 100000 in
theorem zmt_ok_101 : zmtP (3, 256, 2, m_X_nextSeed) := ⟨zm_X_nextSeed, zixc 104 rfl rfl, zixc 105 rfl rfl⟩
set_option maxRecDepth 100000 in
theorem zmt_ok_102 : zmtP (3, 259, 2, m_X_drawOf) := ⟨zm_X_drawOf, zixc 108 rfl rfl, zixc 109 rfl rfl⟩
set_option maxRecDepth 100000 in
theorem zmt_ok_103 : zmtP (3, 262, 1, m_H_howManySee) := ⟨zm_H_howManySee, zixc 113 rfl rfl, zixc 115 rfl rfl, zix2 52 rfl rfl, by decide⟩
set_option maxRecDepth 100000 in
theorem zmt_ok_104 : zmtP (3, 269, 2, m_X_pairBit) := ⟨zm_X_pairBit, zixc 11 rfl rfl, zixc 12 rfl rfl⟩
set_option maxRecDepth 100000 in
theorem zmt_ok_105 : zmtP (4, 68, 2, m_M_in) := ⟨zm_M_in, zixd 34 rfl rfl, zixd 35 rfl rfl⟩
set_option maxRecDepth 100000 in
theorem zmt_ok_106 : zmtP (4, 72, 0, m_M_isOne) := ⟨zm_M_isOne, zixd 61 rfl rfl, zixd 63 rfl rfl, zix2 64 rfl rfl, by decide⟩
set_option maxRecDepth 100000 in
theorem zmt_ok_107 : zmtP (4, 80, 2, m_M_straight) := ⟨zm_M_straight, zixd 86 rfl rfl, zixd 87 rfl rfl⟩
set_option maxRecDepth 100000 in
theorem zmt_ok_108 : zmtP (4, 84, 0, m_M_oneIn) := ⟨zm_M_oneIn, zixd 53 rfl rfl, zixd 55 rfl rfl, zix2 62 rfl rfl, by decide⟩
set_option maxRecDepth 100000 in
theorem zmt_ok_109 : zmtP (4, 88, 0, m_M_reachOf) := ⟨zm_M_reachOf, zixd 98 rfl rfl, zixd 100 rfl rfl, zix2 72 rfl rfl, by decide⟩
set_option maxRecDepth 100000 in
theorem zmt_ok_110 : zmtP (4, 91, 0, m_M_nextFrom) := ⟨zm_M_nextFrom, zixd 82 rfl rfl, zixd 84 rfl rfl, zix2 69 rfl rfl, by decide⟩
set_option maxRecDepth 100000 in
theorem zmt_ok_111 : zmtP (4, 94, 0, m_M_depthOf) := ⟨zm_M_depthOf, zixd 78 rfl rfl, zixd 80 rfl rfl, zix2 68 rfl rfl, by decide⟩
set_option maxRecDepth 100000 in
theorem zmt_ok_112 : zmtP (4, 97, 0, m_M_aheadOf) := ⟨zm_M_aheadOf, zixd 94 rfl rfl, zixd 96 rfl rfl, zix2 71 rfl rfl, by decide⟩
set_option maxRecDepth 100000 in
theorem zmt_ok_113 : zmtP (4, 103, 0, m_M_stepTo) := ⟨zm_M_stepTo, zixd 102 rfl rfl, zixd 104 rfl rfl, zix2 73 rfl rfl, by decide⟩
set_option maxRecDepth 100000 in
theorem zmt_ok_114 : zmtP (4, 113, 0, m_M_lensOf) := ⟨zm_M_lensOf, zixd 74 rfl rfl, zixd 76 rfl rfl, zix2 67 rfl rfl, by decide⟩
set_option maxRecDepth 100000 in
theorem zmt_ok_115 : zmtP (4, 116, 0, m_M_goesBy) := ⟨zm_M_goesBy, zixd 90 rfl rfl, zixd 92 rfl rfl, zix2 70 rfl rfl, by decide⟩
set_option maxRecDepth 100000 in
theorem zmt_ok_116 : zmtP (4, 119, 0, m_M_nightBy) := ⟨zm_M_nightBy, zixd 70 rfl rfl, zixd 72 rfl rfl, zix2 66 rfl rfl, by decide⟩
set_option maxRecDepth 100000 in
theorem zmt_ok_117 : zmtP (4, 123, 0, m_M_refuse) := ⟨zm_M_refuse, zixd 5 rfl rfl, zixd 7 rfl rfl, zix2 53 rfl rfl, by decide⟩
set_option maxRecDepth 100000 in
theorem zmt_ok_118 : zmtP (4, 136, 0, m_M_here) := ⟨zm_M_here, zixd 17 rfl rfl, zixd 19 rfl rfl, zix2 55 rfl rfl, by decide⟩
set_option maxRecDepth 100000 in
theorem zmt_ok_119 : zmtP (4, 144, 0, m_M_readDigits) := ⟨zm_M_readDigits, zixd 28 rfl rfl, zixd 30 rfl rfl, zix2 57 rfl rfl, by decide⟩
set_option maxRecDepth 100000 in
theorem zmt_ok_120 : zmtP (4, 150, 2, m_M_isLetter) := ⟨zm_M_isLetter, zixd 21 rfl rfl, zixd 22 rfl rfl⟩
set_option maxRecDepth 100000 in
theorem zmt_ok_121 : zmtP (4, 153, 0, m_M_readNumbers) := ⟨zm_M_readNumbers, zixd 24 rfl rfl, zixd 26 rfl rfl, zix2 56 rfl rfl, by decide⟩
set_option maxRecDepth 100000 in
theorem zmt_ok_122 : zmtP (4, 156, 0, m_M_oneComes) := ⟨zm_M_oneComes, zixd 57 rfl rfl, zixd 59 rfl rfl, zix2 63 rfl rfl, by decide⟩
set_option maxRecDepth 100000 in
theorem zmt_ok_123 : zmtP (4, 162, 0, m_M_goNights) := ⟨zm_M_goNights, zixd 66 rfl rfl, zixd 68 rfl rfl, zix2 65 rfl rfl, by decide⟩
set_option maxRecDepth 100000 in
theorem zmt_ok_124 : zmtP (4, 165, 0, m_M_readStatement) := ⟨zm_M_readStatement, zixd 13 rfl rfl, zixd 15 rfl rfl, zix2 54 rfl rfl, by decide⟩
set_option maxRecDepth 100000 in
theorem zmt_ok_125 : zmtP (4, 168, 0, m_M_think) := ⟨zm_M_think, zixd 37 rfl rfl, zixd 39 rfl rfl, zix2 58 rfl rfl, by decide⟩
set_option maxRecDepth 100000 in
theorem zmt_ok_126 : zmtP (4, 171, 0, m_M_comesTold) := ⟨zm_M_comesTold, zixd 49 rfl rfl, zixd 51 rfl rfl, zix2 61 rfl rfl, by decide⟩
set_option maxRecDepth 100000 in
theorem zmt_ok_127 : zmtP (4, 174, 0, m_M_again) := ⟨zm_M_again, zixd 106 rfl rfl, zixd 108 rfl rfl, zix2 74 rfl rfl, by decide⟩
set_option maxRecDepth 100000 in
theorem zmt_ok_128 : zmtP (4, 189, 0, m_M_carry) := ⟨zm_M_carry, zixd 45 rfl rfl, zixd 47 rfl rfl, zix2 60 rfl rfl, by decide⟩
set_option maxRecDepth 100000 in
theorem zmt_ok_129 : zmtP (4, 192, 0, m_M_carryAll) := ⟨zm_M_carryAll, zixd 41 rfl rfl, zixd 43 rfl rfl, zix2 59 rfl rfl, by decide⟩
set_option maxRecDepth 100000 in
theorem zmt_ok_130 : zmtP (4, 201, 2, m_M_wrongNumber) := ⟨zm_M_wrongNumber, zixd 131 rfl rfl, zixd 132 rfl rfl⟩
set_option maxRecDepth 100000 in
theorem zmt_ok_131 : zmtP (4, 204, 2, m_M_isCell) := ⟨zm_M_isCell, zixd 134 rfl rfl, zixd 135 rfl rfl⟩
set_option maxRecDepth 100000 in
theorem zmt_ok_132 : zmtP (4, 209, 0, m_M_keepTurn) := ⟨zm_M_keepTurn, zixd 143 rfl rfl, zixd 145 rfl rfl, zix2 75 rfl rfl, by decide⟩
set_option maxRecDepth 100000 in
theorem zmt_ok_133 : zmtP (4, 212, 0, m_M_allOfStarts) := ⟨zm_M_allOfStarts, zixd 155 rfl rfl, zixd 157 rfl rfl, zix2 76 rfl rfl, by decide⟩
set_option maxRecDepth 100000 in
theorem zmt_ok_134 : zmtP (4, 215, 2, m_M_wrongBit) := ⟨zm_M_wrongBit, zixd 163 rfl rfl, zixd 164 rfl rfl⟩
set_option maxRecDepth 100000 in
theorem zmt_ok_135 : zmtP (4, 218, 0, m_M_watchersOf) := ⟨zm_M_watchersOf, zixd 166 rfl rfl, zixd 168 rfl rfl, zix2 77 rfl rfl, by decide⟩
set_option maxRecDepth 100000 in
theorem zmt_ok_136 : zmtP (4, 221, 2, m_M_hasBit) := ⟨zm_M_hasBit, zixd 194 rfl rfl, zixd 195 rfl rfl⟩
set_option maxRecDepth 100000 in
theorem zmt_ok_137 : zmtP (4, 231, 2, m_M_onesOf) := ⟨zm_M_onesOf, zixd 197 rfl rfl, zixd 198 rfl rfl⟩
set_option maxRecDepth 100000 in
theorem zmt_ok_138 : zmtP (4, 234, 0, m_M_chainFrom) := ⟨zm_M_chainFrom, zixd 190 rfl rfl, zixd 192 rfl rfl, zix2 78 rfl rfl, by decide⟩
set_option maxRecDepth 100000 in
theorem zmt_ok_139 : zmtP (4, 240, 0, m_M_isRow) := ⟨zm_M_isRow, zixd 228 rfl rfl, zixd 230 rfl rfl, zix2 79 rfl rfl, by decide⟩
set_option maxRecDepth 100000 in
theorem zmt_ok_140 : zmtP (4, 243, 0, m_M_stepFrom) := ⟨zm_M_stepFrom, zixd 236 rfl rfl, zixd 238 rfl rfl, zix2 80 rfl rfl, by decide⟩
set_option maxRecDepth 100000 in
theorem zmt_ok_141 : zmtP (4, 247, 0, m_M_areTwo) := ⟨zm_M_areTwo, zixe 4 rfl rfl, zixe 6 rfl rfl, zix2 81 rfl rfl, by decide⟩
set_option maxRecDepth 100000 in
theorem zmt_ok_142 : zmtP (4, 250, 0, m_M_areResting) := ⟨zm_M_areResting, zixe 8 rfl rfl, zixe 10 rfl rfl, zix2 82 rfl rfl, by decide⟩
set_option maxRecDepth 100000 in
theorem zmt_ok_143 : zmtP (4, 253, 2, m_M_divisor) := ⟨zm_M_divisor, zixe 20 rfl rfl, zixe 21 rfl rfl⟩
set_option maxRecDepth 100000 in
theorem zmt_ok_144 : zmtP (4, 259, 2, m_M_partOf) := ⟨zm_M_partOf, zixe 17 rfl rfl, zixe 18 rfl rfl⟩
set_option maxRecDepth 100000 in
theorem zmt_ok_145 : zmtP (4, 263, 2, m_M_apart) := ⟨zm_M_apart, zixe 35 rfl rfl, zixe 36 rfl rfl⟩
set_option maxRecDepth 100000 in
theorem zmt_ok_146 : zmtP (4, 272, 0, m_M_drawBelow) := ⟨zm_M_drawBelow, zixe 86 rfl rfl, zixe 88 rfl rfl, zix2 83 rfl rfl, by decide⟩
set_option maxRecDepth 100000 in
theorem zmt_ok_147 : zmtP (5, 9, 4, m_X_init) := ⟨zm_X_init, zix1 10 rfl rfl, zix1 11 rfl rfl, rfl, rfl⟩
set_option maxRecDepth 100000 in
theorem zmt_ok_148 : zmtP (5, 12, 4, m_M_init) := ⟨zm_M_init, zixc 131 rfl rfl, zixc 132 rfl rfl, rfl, rfl⟩
set_option maxRecDepth 100000 in
theorem zmt_ok_149 : zmtP (5, 13, 0, m_X_feed) := ⟨zm_X_feed, zix1 121 rfl rfl, zix1 122 rfl rfl, zix1 123 rfl rfl, by decide⟩
set_option maxRecDepth 100000 in
theorem zmt_ok_150 : zmtP (5, 17, 0, m_M_feed) := ⟨zm_M_feed, zixd 1 rfl rfl, zixd 2 rfl rfl, zixd 3 rfl rfl, by decide⟩
set_option maxRecDepth 100000 in
theorem zmt_ok_151 : zmtP (5, 18, 0, m_X_hill) := ⟨zm_X_hill, zix1 140 rfl rfl, zix1 141 rfl rfl, zix1 142 rfl rfl, by decide⟩
set_option maxRecDepth 100000 in
theorem zmt_ok_152 : zmtP (5, 22, 0, m_M_hill) := ⟨zm_M_hill, zixd 9 rfl rfl, zixd 10 rfl rfl, zixd 11 rfl rfl, by decide⟩
set_option maxRecDepth 100000 in
theorem zmt_ok_153 : zmtP (5, 23, 0, m_X_personOf) := ⟨zm_X_personOf, zixb 47 rfl rfl, zixb 48 rfl rfl, zixb 49 rfl rfl, by decide⟩
set_option maxRecDepth 100000 in
theorem zmt_ok_154 : zmtP (5, 27, 0, m_M_personOf) := ⟨zm_M_personOf, zixd 122 rfl rfl, zixd 123 rfl rfl, zixd 124 rfl rfl, by decide⟩
set_option maxRecDepth 100000 in
theorem zmt_ok_155 : zmtP (5, 28, 0, m_X_person) := ⟨zm_X_person, zixb 74 rfl rfl, zixb 75 rfl rfl, zixb 76 rfl rfl, by decide⟩
set_option maxRecDepth 100000 in
theorem zmt_ok_156 : zmtP (5, 32, 0, m_M_person) := ⟨zm_M_person, zixd 127 rfl rfl, zixd 128 rfl rfl, zixd 129 rfl rfl, by decide⟩
set_option maxRecDepth 100000 in
theorem zmt_ok_157 : zmtP (5, 33, 0, m_X_turns) := ⟨zm_X_turns, zixb 83 rfl rfl, zixb 84 rfl rfl, zixb 85 rfl rfl, by decide⟩
set_option maxRecDepth 100000 in
theorem zmt_ok_158 : zmtP (5, 36, 0, m_M_turns) := ⟨zm_M_turns, zixd 139 rfl rfl, zixd 140 rfl rfl, zixd 141 rfl rfl, by decide⟩
set_option maxRecDepth 100000 in
theorem zmt_ok_159 : zmtP (5, 37, 0, m_X_stands) := ⟨zm_X_stands, zixb 98 rfl rfl, zixb 99 rfl rfl, zixb 100 rfl rfl, by decide⟩
set_option maxRecDepth 100000 in
theorem zmt_ok_160 : zmtP (5, 40, 0, m_M_stands) := ⟨zm_M_stands, zixd 147 rfl rfl, zixd 148 rfl rfl, zixd 149 rfl rfl, by decide⟩
set_option maxRecDepth 100000 in
theorem zmt_ok_161 : zmtP (5, 41, 0, m_X_nights) := ⟨zm_X_nights, zixb 103 rfl rfl, zixb 104 rfl rfl, zixb 105 rfl rfl, by decide⟩
set_option maxRecDepth 100000 in
theorem zmt_ok_162 : zmtP (5, 44, 0, m_M_nights) := ⟨zm_M_nights, zixd 151 rfl rfl, zixd 152 rfl rfl, zixd 153 rfl rfl, by decide⟩
set_option maxRecDepth 100000 in
theorem zmt_ok_163 : zmtP (5, 45, 0, m_X_back) := ⟨zm_X_back, zixb 113 rfl rfl, zixb 114 rfl rfl, zixb 115 rfl rfl, by decide⟩
set_option maxRecDepth 100000 in
theorem zmt_ok_164 : zmtP (5, 48, 0, m_M_back) := ⟨zm_M_back, zixd 118 rfl rfl, zixd 119 rfl rfl, zixd 120 rfl rfl, by decide⟩
set_option maxRecDepth 100000 in
theorem zmt_ok_165 : zmtP (5, 49, 0, m_X_behind) := ⟨zm_X_behind, zixb 121 rfl rfl, zixb 122 rfl rfl, zixb 123 rfl rfl, by decide⟩
set_option maxRecDepth 100000 in
theorem zmt_ok_166 : zmtP (5, 53, 0, m_M_behind) := ⟨zm_M_behind, zixd 159 rfl rfl, zixd 160 rfl rfl, zixd 161 rfl rfl, by decide⟩
set_option maxRecDepth 100000 in
theorem zmt_ok_167 : zmtP (5, 54, 0, m_X_allStarts) := ⟨zm_X_allStarts, zixb 140 rfl rfl, zixb 141 rfl rfl, zixb 142 rfl rfl, by decide⟩
set_option maxRecDepth 100000 in
theorem zmt_ok_168 : zmtP (5, 57, 0, m_M_allStarts) := ⟨zm_M_allStarts, zixd 170 rfl rfl, zixd 171 rfl rfl, zixd 172 rfl rfl, by decide⟩
set_option maxRecDepth 100000 in
theorem zmt_ok_169 : zmtP (5, 58, 0, m_X_first) := ⟨zm_X_first, zixb 144 rfl rfl, zixb 145 rfl rfl, zixb 146 rfl rfl, by decide⟩
set_option maxRecDepth 100000 in
theorem zmt_ok_170 : zmtP (5, 61, 0, m_M_first) := ⟨zm_M_first, zixd 174 rfl rfl, zixd 175 rfl rfl, zixd 176 rfl rfl, by decide⟩
set_option maxRecDepth 100000 in
theorem zmt_ok_171 : zmtP (5, 62, 0, m_X_still) := ⟨zm_X_still, zixb 152 rfl rfl, zixb 153 rfl rfl, zixb 154 rfl rfl, by decide⟩
set_option maxRecDepth 100000 in
theorem zmt_ok_172 : zmtP (5, 65, 0, m_M_still) := ⟨zm_M_still, zixd 178 rfl rfl, zixd 179 rfl rfl, zixd 180 rfl rfl, by decide⟩
set_option maxRecDepth 100000 in
theorem zmt_ok_173 : zmtP (5, 66, 0, m_X_unseen) := ⟨zm_X_unseen, zixb 156 rfl rfl, zixb 157 rfl rfl, zixb 158 rfl rfl, by decide⟩
set_option maxRecDepth 100000 in
theorem zmt_ok_174 : zmtP (5, 69, 0, m_M_unseen) := ⟨zm_M_unseen, zixd 182 rfl rfl, zixd 183 rfl rfl, zixd 184 rfl rfl, by decide⟩
set_option maxRecDepth 100000 in
theorem zmt_ok_175 : zmtP (5, 70, 0, m_X_chain) := ⟨zm_X_chain, zixb 165 rfl rfl, zixb 166 rfl rfl, zixb 167 rfl rfl, by decide⟩
set_option maxRecDepth 100000 in
theorem zmt_ok_176 : zmtP (5, 73, 0, m_M_chain) := ⟨zm_M_chain, zixd 186 rfl rfl, zixd 187 rfl rfl, zixd 188 rfl rfl, by decide⟩
set_option maxRecDepth 100000 in
theorem zmt_ok_177 : zmtP (5, 74, 0, m_X_deepest) := ⟨zm_X_deepest, zixb 173 rfl rfl, zixb 174 rfl rfl, zixb 175 rfl rfl, by decide⟩
set_option maxRecDepth 100000 in
theorem zmt_ok_178 : zmtP (5, 77, 0, m_M_deepest) := ⟨zm_M_deepest, zixd 200 rfl rfl, zixd 201 rfl rfl, zixd 202 rfl rfl, by decide⟩
set_option maxRecDepth 100000 in
theorem zmt_ok_179 : zmtP (5, 78, 0, m_X_knows) := ⟨zm_X_knows, zixb 177 rfl rfl, zixb 178 rfl rfl, zixb 179 rfl rfl, by decide⟩
set_option maxRecDepth 100000 in
theorem zmt_ok_180 : zmtP (5, 81, 0, m_M_knows) := ⟨zm_M_knows, zixd 204 rfl rfl, zixd 205 rfl rfl, zixd 206 rfl rfl, by decide⟩
set_option maxRecDepth 100000 in
theorem zmt_ok_181 : zmtP (5, 82, 0, m_X_safe) := ⟨zm_X_safe, zixb 185 rfl rfl, zixb 186 rfl rfl, zixb 187 rfl rfl, by decide⟩
set_option maxRecDepth 100000 in
theorem zmt_ok_182 : zmtP (5, 85, 0, m_M_safe) := ⟨zm_M_safe, zixd 208 rfl rfl, zixd 209 rfl rfl, zixd 210 rfl rfl, by decide⟩
set_option maxRecDepth 100000 in
theorem zmt_ok_183 : zmtP (5, 86, 0, m_X_alone) := ⟨zm_X_alone, zixb 189 rfl rfl, zixb 190 rfl rfl, zixb 191 rfl rfl, by decide⟩
set_option maxRecDepth 100000 in
theorem zmt_ok_184 : zmtP (5, 89, 0, m_M_alone) := ⟨zm_M_alone, zixd 212 rfl rfl, zixd 213 rfl rfl, zixd 214 rfl rfl, by decide⟩
set_option maxRecDepth 100000 in
theorem zmt_ok_185 : zmtP (5, 90, 0, m_X_turnAll) := ⟨zm_X_turnAll, zixb 193 rfl rfl, zixb 194 rfl rfl, zixb 195 rfl rfl, by decide⟩
set_option maxRecDepth 100000 in
theorem zmt_ok_186 : zmtP (5, 93, 0, m_M_turnAll) := ⟨zm_M_turnAll, zixd 216 rfl rfl, zixd 217 rfl rfl, zixd 218 rfl rfl, by decide⟩
set_option maxRecDepth 100000 in
theorem zmt_ok_187 : zmtP (5, 94, 0, m_X_post) := ⟨zm_X_post, zixb 201 rfl rfl, zixb 202 rfl rfl, zixb 203 rfl rfl, by decide⟩
set_option maxRecDepth 100000 in
theorem zmt_ok_188 : zmtP (5, 97, 0, m_M_post) := ⟨zm_M_post, zixd 220 rfl rfl, zixd 221 rfl rfl, zixd 222 rfl rfl, by decide⟩
set_option maxRecDepth 100000 in
theorem zmt_ok_189 : zmtP (5, 98, 0, m_X_which) := ⟨zm_X_which, zixb 209 rfl rfl, zixb 210 rfl rfl, zixb 211 rfl rfl, by decide⟩
set_option maxRecDepth 100000 in
theorem zmt_ok_190 : zmtP (5, 101, 0, m_M_which) := ⟨zm_M_which, zixd 224 rfl rfl, zixd 225 rfl rfl, zixd 226 rfl rfl, by decide⟩
set_option maxRecDepth 100000 in
theorem zmt_ok_191 : zmtP (5, 102, 0, m_X_bestStep) := ⟨zm_X_bestStep, zixb 225 rfl rfl, zixb 226 rfl rfl, zixb 227 rfl rfl, by decide⟩
set_option maxRecDepth 100000 in
theorem zmt_ok_192 : zmtP (5, 105, 0, m_M_bestStep) := ⟨zm_M_bestStep, zixd 232 rfl rfl, zixd 233 rfl rfl, zixd 234 rfl rfl, by decide⟩
set_option maxRecDepth 100000 in
theorem zmt_ok_193 : zmtP (5, 106, 0, m_X_two) := ⟨zm_X_two, zixb 239 rfl rfl, zixc 0 rfl rfl, zixc 1 rfl rfl, by decide⟩
set_option maxRecDepth 100000 in
theorem zmt_ok_194 : zmtP (5, 109, 0, m_M_two) := ⟨zm_M_two, zixe 0 rfl rfl, zixe 1 rfl rfl, zixe 2 rfl rfl, by decide⟩
set_option maxRecDepth 100000 in
theorem zmt_ok_195 : zmtP (5, 110, 0, m_X_slept) := ⟨zm_X_slept, zixc 17 rfl rfl, zixc 18 rfl rfl, zixc 19 rfl rfl, by decide⟩
set_option maxRecDepth 100000 in
theorem zmt_ok_196 : zmtP (5, 114, 0, m_M_slept) := ⟨zm_M_slept, zixe 12 rfl rfl, zixe 13 rfl rfl, zixe 14 rfl rfl, by decide⟩
set_option maxRecDepth 100000 in
theorem zmt_ok_197 : zmtP (5, 115, 0, m_X_busiest) := ⟨zm_X_busiest, zixc 28 rfl rfl, zixc 29 rfl rfl, zixc 30 rfl rfl, by decide⟩
set_option maxRecDepth 100000 in
theorem zmt_ok_198 : zmtP (5, 118, 0, m_M_busiest) := ⟨zm_M_busiest, zixe 23 rfl rfl, zixe 24 rfl rfl, zixe 25 rfl rfl, by decide⟩
set_option maxRecDepth 100000 in
theorem zmt_ok_199 : zmtP (5, 119, 0, m_X_twos) := ⟨zm_X_twos, zixc 32 rfl rfl, zixc 33 rfl rfl, zixc 34 rfl rfl, by decide⟩
set_option maxRecDepth 100000 in
theorem zmt_ok_200 : zmtP (5, 122, 0, m_M_twos) := ⟨zm_M_twos, zixe 27 rfl rfl, zixe 28 rfl rfl, zixe 29 rfl rfl, by decide⟩
set_option maxRecDepth 100000 in
theorem zmt_ok_201 : zmtP (5, 123, 0, m_X_nearest) := ⟨zm_X_nearest, zixc 36 rfl rfl, zixc 37 rfl rfl, zixc 38 rfl rfl, by decide⟩
set_option maxRecDepth 100000 in
theorem zmt_ok_202 : zmtP (5, 126, 0, m_M_nearest) := ⟨zm_M_nearest, zixe 31 rfl rfl, zixe 32 rfl rfl, zixe 33 rfl rfl, by decide⟩
set_option maxRecDepth 100000 in
theorem zmt_ok_203 : zmtP (5, 127, 0, m_X_lines) := ⟨zm_X_lines, zixc 53 rfl rfl, zixc 54 rfl rfl, zixc 55 rfl rfl, by decide⟩
set_option maxRecDepth 100000 in
theorem zmt_ok_204 : zmtP (5, 130, 0, m_M_lines) := ⟨zm_M_lines, zixe 38 rfl rfl, zixe 39 rfl rfl, zixe 40 rfl rfl, by decide⟩
set_option maxRecDepth 100000 in
theorem zmt_ok_205 : zmtP (5, 131, 0, m_X_hidden) := ⟨zm_X_hidden, zixc 59 rfl rfl, zixc 60 rfl rfl, zixc 61 rfl rfl, by decide⟩
set_option maxRecDepth 100000 in
theorem zmt_ok_206 : zmtP (5, 134, 0, m_M_hidden) := ⟨zm_M_hidden, zixe 42 rfl rfl, zixe 43 rfl rfl, zixe 44 rfl rfl, by decide⟩
set_option maxRecDepth 100000 in
theorem zmt_ok_207 : zmtP (5, 135, 0, m_X_longest) := ⟨zm_X_longest, zixc 64 rfl rfl, zixc 65 rfl rfl, zixc 66 rfl rfl, by decide⟩
set_option maxRecDepth 100000 in
theorem zmt_ok_208 : zmtP (5, 138, 0, m_M_longest) := ⟨zm_M_longest, zixe 46 rfl rfl, zixe 47 rfl rfl, zixe 48 rfl rfl, by decide⟩
set_option maxRecDepth 100000 in
theorem zmt_ok_209 : zmtP (5, 139, 0, m_X_walks) := ⟨zm_X_walks, zixc 68 rfl rfl, zixc 69 rfl rfl, zixc 70 rfl rfl, by decide⟩
set_option maxRecDepth 100000 in
theorem zmt_ok_210 : zmtP (5, 142, 0, m_M_walks) := ⟨zm_M_walks, zixe 50 rfl rfl, zixe 51 rfl rfl, zixe 52 rfl rfl, by decide⟩
set_option maxRecDepth 100000 in
theorem zmt_ok_211 : zmtP (5, 143, 0, m_X_meets) := ⟨zm_X_meets, zixc 72 rfl rfl, zixc 73 rfl rfl, zixc 74 rfl rfl, by decide⟩
set_option maxRecDepth 100000 in
theorem zmt_ok_212 : zmtP (5, 146, 0, m_M_meets) := ⟨zm_M_meets, zixe 54 rfl rfl, zixe 55 rfl rfl, zixe 56 rfl rfl, by decide⟩
set_option maxRecDepth 100000 in
theorem zmt_ok_213 : zmtP (5, 147, 0, m_X_leave) := ⟨zm_X_leave, zixc 76 rfl rfl, zixc 77 rfl rfl, zixc 78 rfl rfl, by decide⟩
set_option maxRecDepth 100000 in
theorem zmt_ok_214 : zmtP (5, 150, 0, m_M_leave) := ⟨zm_M_leave, zixe 58 rfl rfl, zixe 59 rfl rfl, zixe 60 rfl rfl, by decide⟩
set_option maxRecDepth 100000 in
theorem zmt_ok_215 : zmtP (5, 151, 0, m_X_most) := ⟨zm_X_most, zixc 80 rfl rfl, zixc 81 rfl rfl, zixc 82 rfl rfl, by decide⟩
set_option maxRecDepth 100000 in
theorem zmt_ok_216 : zmtP (5, 154, 0, m_M_most) := ⟨zm_M_most, zixe 62 rfl rfl, zixe 63 rfl rfl, zixe 64 rfl rfl, by decide⟩
set_option maxRecDepth 100000 in
theorem zmt_ok_217 : zmtP (5, 155, 0, m_X_quiet) := ⟨zm_X_quiet, zixc 84 rfl rfl, zixc 85 rfl rfl, zixc 86 rfl rfl, by decide⟩
set_option maxRecDepth 100000 in
theorem zmt_ok_218 : zmtP (5, 158, 0, m_M_quiet) := ⟨zm_M_quiet, zixe 66 rfl rfl, zixe 67 rfl rfl, zixe 68 rfl rfl, by decide⟩
set_option maxRecDepth 100000 in
theorem zmt_ok_219 : zmtP (5, 159, 0, m_X_row) := ⟨zm_X_row, zixc 88 rfl rfl, zixc 89 rfl rfl, zixc 90 rfl rfl, by decide⟩
set_option maxRecDepth 100000 in
theorem zmt_ok_220 : zmtP (5, 162, 0, m_M_row) := ⟨zm_M_row, zixe 70 rfl rfl, zixe 71 rfl rfl, zixe 72 rfl rfl, by decide⟩
set_option maxRecDepth 100000 in
theorem zmt_ok_221 : zmtP (5, 163, 0, m_X_judge) := ⟨zm_X_judge, zixc 92 rfl rfl, zixc 93 rfl rfl, zixc 94 rfl rfl, by decide⟩
set_option maxRecDepth 100000 in
theorem zmt_ok_222 : zmtP (5, 166, 0, m_M_judge) := ⟨zm_M_judge, zixe 74 rfl rfl, zixe 75 rfl rfl, zixe 76 rfl rfl, by decide⟩
set_option maxRecDepth 100000 in
theorem zmt_ok_223 : zmtP (5, 167, 0, m_X_clear) := ⟨zm_X_clear, zixc 96 rfl rfl, zixc 97 rfl rfl, zixc 98 rfl rfl, by decide⟩
set_option maxRecDepth 100000 in
theorem zmt_ok_224 : zmtP (5, 170, 0, m_M_clear) := ⟨zm_M_clear, zixe 78 rfl rfl, zixe 79 rfl rfl, zixe 80 rfl rfl, by decide⟩
set_option maxRecDepth 100000 in
theorem zmt_ok_225 : zmtP (5, 171, 0, m_X_lots) := ⟨zm_X_lots, zixc 100 rfl rfl, zixc 101 rfl rfl, zixc 102 rfl rfl, by decide⟩
set_option maxRecDepth 100000 in
theorem zmt_ok_226 : zmtP (5, 174, 0, m_M_lots) := ⟨zm_M_lots, zixe 82 rfl rfl, zixe 83 rfl rfl, zixe 84 rfl rfl, by decide⟩
set_option maxRecDepth 100000 in
theorem zmt_ok_227 : zmtP (5, 175, 0, m_X_image) := ⟨zm_X_image, zixc 117 rfl rfl, zixc 118 rfl rfl, zixc 119 rfl rfl, by decide⟩
set_option maxRecDepth 100000 in
theorem zmt_ok_228 : zmtP (5, 178, 0, m_M_image) := ⟨zm_M_image, zixd 110 rfl rfl, zixd 111 rfl rfl, zixd 112 rfl rfl, by decide⟩
set_option maxRecDepth 100000 in
theorem zmt_ok_229 : zmtP (5, 179, 0, m_X_restore) := ⟨zm_X_restore, zixc 121 rfl rfl, zixc 122 rfl rfl, zixc 123 rfl rfl, by decide⟩
set_option maxRecDepth 100000 in
theorem zmt_ok_230 : zmtP (5, 182, 0, m_M_restore) := ⟨zm_M_restore, zixd 114 rfl rfl, zixd 115 rfl rfl, zixd 116 rfl rfl, by decide⟩
set_option maxRecDepth 100000 in
theorem zmt_ok_231 : zmtP (5, 183, 0, m_X_count) := ⟨zm_X_count, zixc 125 rfl rfl, zixc 126 rfl rfl, zixc 127 rfl rfl, by decide⟩
set_option maxRecDepth 100000 in
theorem zmt_ok_232 : zmtP (5, 186, 0, m_M_count) := ⟨zm_M_count, zixe 93 rfl rfl, zixe 94 rfl rfl, zixe 95 rfl rfl, by decide⟩
set_option maxRecDepth 100000 in
theorem zmt_ok_c0 : ∀ q ∈ [(0, 40, 3, m_X_at), (0, 44, 3, m_X_put), (0, 48, 3, m_X_bitOf), (0, 52, 3, m_X_reach), (0, 56, 3, m_X_depth), (0, 59, 0, m_H_whoIsAt), (0, 62, 3, m_X_rowOf), (0, 70, 3, m_X_columnOf), (0, 73, 3, m_X_cellBeside), (0, 76, 0, m_H_isFree), (0, 80, 0, m_H_reachOf), (0, 83, 0, m_H_nextTo), (0, 87, 3, m_X_turned), (0, 90, 0, m_H_depthOf), (0, 93, 0, m_H_ahead), (0, 96, 0, m_H_inLens), (0, 99, 0, m_H_nightWithout), (0, 106, 0, m_H_stirs), (0, 110, 0, m_H_turnsBy), (0, 113, 0, m_H_stepsTo)], zmtP q := List.forall_mem_cons.mpr ⟨zmt_ok_0, List.forall_mem_cons.mpr ⟨zmt_ok_1, List.forall_mem_cons.mpr ⟨zmt_ok_2, List.forall_mem_cons.mpr ⟨zmt_ok_3, List.forall_mem_cons.mpr ⟨zmt_ok_4, List.forall_mem_cons.mpr ⟨zmt_ok_5, List.forall_mem_cons.mpr ⟨zmt_ok_6, List.forall_mem_cons.mpr ⟨zmt_ok_7, List.forall_mem_cons.mpr ⟨zmt_ok_8, List.forall_mem_cons.mpr ⟨zmt_ok_9, List.forall_mem_cons.mpr ⟨zmt_ok_10, List.forall_mem_cons.mpr ⟨zmt_ok_11, List.forall_mem_cons.mpr ⟨zmt_ok_12, List.forall_mem_cons.mpr ⟨zmt_ok_13, List.forall_mem_cons.mpr ⟨zmt_ok_14, List.forall_mem_cons.mpr ⟨zmt_ok_15, List.forall_mem_cons.mpr ⟨zmt_ok_16, List.forall_mem_cons.mpr ⟨zmt_ok_17, List.forall_mem_cons.mpr ⟨zmt_ok_18, List.forall_mem_cons.mpr ⟨zmt_ok_19, fun _ h => absurd h List.not_mem_nil⟩⟩⟩⟩⟩⟩⟩⟩⟩⟩⟩⟩⟩⟩⟩⟩⟩⟩⟩⟩
set_option maxRecDepth 100000 in
theorem zmt_ok_c1 : ∀ q ∈ [(1, 24, 5, m_H_init), (1, 25, 0, m_P_placeAt), (1, 29, 1, m_H_become), (2, 19, 3, m_X_put), (2, 23, 3, m_X_at), (2, 27, 2, m_T_digitsBehind), (2, 31, 0, m_T_digit), (2, 34, 0, m_T_number), (2, 37, 2, m_T_joins), (2, 41, 2, m_T_facesSo), (2, 45, 2, m_T_changesCell), (2, 48, 1, m_H_hasRoomFor), (2, 54, 1, m_H_pass), (2, 58, 3, m_X_isKind), (2, 61, 3, m_X_isCell), (2, 64, 3, m_X_isWay), (2, 68, 1, m_H_isFree), (2, 71, 1, m_H_join), (2, 75, 1, m_H_has), (2, 78, 1, m_H_face)], zmtP q := List.forall_mem_cons.mpr ⟨zmt_ok_20, List.forall_mem_cons.mpr ⟨zmt_ok_21, List.forall_mem_cons.mpr ⟨zmt_ok_22, List.forall_mem_cons.mpr ⟨zmt_ok_23, List.forall_mem_cons.mpr ⟨zmt_ok_24, List.forall_mem_cons.mpr ⟨zmt_ok_25, List.forall_mem_cons.mpr ⟨zmt_ok_26, List.forall_mem_cons.mpr ⟨zmt_ok_27, List.forall_mem_cons.mpr ⟨zmt_ok_28, List.forall_mem_cons.mpr ⟨zmt_ok_29, List.forall_mem_cons.mpr ⟨zmt_ok_30, List.forall_mem_cons.mpr ⟨zmt_ok_31, List.forall_mem_cons.mpr ⟨zmt_ok_32, List.forall_mem_cons.mpr ⟨zmt_ok_33, List.forall_mem_cons.mpr ⟨zmt_ok_34, List.forall_mem_cons.mpr ⟨zmt_ok_35, List.forall_mem_cons.mpr ⟨zmt_ok_36, List.forall_mem_cons.mpr ⟨zmt_ok_37, List.forall_mem_cons.mpr ⟨zmt_ok_38, List.forall_mem_cons.mpr ⟨zmt_ok_39, fun _ h => absurd h List.not_mem_nil⟩⟩⟩⟩⟩⟩⟩⟩⟩⟩⟩⟩⟩⟩⟩⟩⟩⟩⟩⟩
set_option maxRecDepth 100000 in
theorem zmt_ok_c2 : ∀ q ∈ [(2, 82, 1, m_H_place), (3, 9, 5, m_H_init), (3, 32, 5, m_P_init), (3, 39, 5, m_T_init), (3, 55, 0, m_X_refuse), (3, 62, 1, m_T_append), (3, 65, 1, m_T_wrongPlace), (3, 69, 1, m_H_become), (3, 73, 1, m_T_beginsStatement), (3, 77, 1, m_T_comesTo), (3, 81, 1, m_T_forget), (3, 84, 1, m_P_forget), (3, 85, 1, m_H_has), (3, 88, 1, m_H_kindOf), (3, 91, 1, m_H_figureOf), (3, 94, 1, m_H_cellOf), (3, 97, 1, m_H_facesOf), (3, 100, 1, m_H_startsOf), (3, 103, 1, m_H_reachOf), (3, 106, 1, m_H_depthOf)], zmtP q := List.forall_mem_cons.mpr ⟨zmt_ok_40, List.forall_mem_cons.mpr ⟨zmt_ok_41, List.forall_mem_cons.mpr ⟨zmt_ok_42, List.forall_mem_cons.mpr ⟨zmt_ok_43, List.forall_mem_cons.mpr ⟨zmt_ok_44, List.forall_mem_cons.mpr ⟨zmt_ok_45, List.forall_mem_cons.mpr ⟨zmt_ok_46, List.forall_mem_cons.mpr ⟨zmt_ok_47, List.forall_mem_cons.mpr ⟨zmt_ok_48, List.forall_mem_cons.mpr ⟨zmt_ok_49, List.forall_mem_cons.mpr ⟨zmt_ok_50, List.forall_mem_cons.mpr ⟨zmt_ok_51, List.forall_mem_cons.mpr ⟨zmt_ok_52, List.forall_mem_cons.mpr ⟨zmt_ok_53, List.forall_mem_cons.mpr ⟨zmt_ok_54, List.forall_mem_cons.mpr ⟨zmt_ok_55, List.forall_mem_cons.mpr ⟨zmt_ok_56, List.forall_mem_cons.mpr ⟨zmt_ok_57, List.forall_mem_cons.mpr ⟨zmt_ok_58, List.forall_mem_cons.mpr ⟨zmt_ok_59, fun _ h => absurd h List.not_mem_nil⟩⟩⟩⟩⟩⟩⟩⟩⟩⟩⟩⟩⟩⟩⟩⟩⟩⟩⟩⟩
set_option maxRecDepth 100000 in
theorem zmt_ok_c3 : ∀ q ∈ [(3, 109, 2, m_X_isKind), (3, 113, 2, m_X_isCell), (3, 116, 2, m_X_isWay), (3, 119, 1, m_H_isFree), (3, 122, 1, m_H_join), (3, 126, 1, m_P_keep), (3, 129, 1, m_H_face), (3, 133, 1, m_H_place), (3, 136, 1, m_H_hasRoomFor), (3, 139, 1, m_H_pass), (3, 143, 1, m_H_startsTogether), (3, 147, 1, m_P_giveBack), (3, 151, 0, m_X_wrongNights), (3, 155, 0, m_X_lookAhead), (3, 158, 1, m_H_ahead), (3, 161, 1, m_H_inLens), (3, 164, 1, m_H_watchers), (3, 167, 0, m_X_wrongWhat), (3, 171, 1, m_H_nightWithout), (3, 177, 2, m_X_bitOf)], zmtP q := List.forall_mem_cons.mpr ⟨zmt_ok_60, List.forall_mem_cons.mpr ⟨zmt_ok_61, List.forall_mem_cons.mpr ⟨zmt_ok_62, List.forall_mem_cons.mpr ⟨zmt_ok_63, List.forall_mem_cons.mpr ⟨zmt_ok_64, List.forall_mem_cons.mpr ⟨zmt_ok_65, List.forall_mem_cons.mpr ⟨zmt_ok_66, List.forall_mem_cons.mpr ⟨zmt_ok_67, List.forall_mem_cons.mpr ⟨zmt_ok_68, List.forall_mem_cons.mpr ⟨zmt_ok_69, List.forall_mem_cons.mpr ⟨zmt_ok_70, List.forall_mem_cons.mpr ⟨zmt_ok_71, List.forall_mem_cons.mpr ⟨zmt_ok_72, List.forall_mem_cons.mpr ⟨zmt_ok_73, List.forall_mem_cons.mpr ⟨zmt_ok_74, List.forall_mem_cons.mpr ⟨zmt_ok_75, List.forall_mem_cons.mpr ⟨zmt_ok_76, List.forall_mem_cons.mpr ⟨zmt_ok_77, List.forall_mem_cons.mpr ⟨zmt_ok_78, List.forall_mem_cons.mpr ⟨zmt_ok_79, fun _ h => absurd h List.not_mem_nil⟩⟩⟩⟩⟩⟩⟩⟩⟩⟩⟩⟩⟩⟩⟩⟩⟩⟩⟩⟩
set_option maxRecDepth 100000 in
theorem zmt_ok_c4 : ∀ q ∈ [(3, 180, 1, m_H_everybody), (3, 183, 1, m_H_chainOf), (3, 186, 1, m_H_seenBy), (3, 189, 1, m_H_seesAllWays), (3, 192, 1, m_H_facesToSeeUnseen), (3, 195, 1, m_H_beOfKind), (3, 198, 1, m_H_beOfFigure), (3, 201, 0, m_X_turnsAsTold), (3, 204, 1, m_H_cellOfStep), (3, 207, 2, m_J_bitCount), (3, 212, 0, m_X_areTwo), (3, 216, 0, m_X_stepsSeenByFaces), (3, 219, 2, m_X_neitherHasBetter), (3, 225, 2, m_X_waysToFace), (3, 229, 2, m_X_commonDivisor), (3, 233, 1, m_H_cellsApart), (3, 236, 2, m_X_rowOf), (3, 239, 2, m_X_columnOf), (3, 242, 1, m_H_nextTo), (3, 248, 2, m_X_put)], zmtP q := List.forall_mem_cons.mpr ⟨zmt_ok_80, List.forall_mem_cons.mpr ⟨zmt_ok_81, List.forall_mem_cons.mpr ⟨zmt_ok_82, List.forall_mem_cons.mpr ⟨zmt_ok_83, List.forall_mem_cons.mpr ⟨zmt_ok_84, List.forall_mem_cons.mpr ⟨zmt_ok_85, List.forall_mem_cons.mpr ⟨zmt_ok_86, List.forall_mem_cons.mpr ⟨zmt_ok_87, List.forall_mem_cons.mpr ⟨zmt_ok_88, List.forall_mem_cons.mpr ⟨zmt_ok_89, List.forall_mem_cons.mpr ⟨zmt_ok_90, List.forall_mem_cons.mpr ⟨zmt_ok_91, List.forall_mem_cons.mpr ⟨zmt_ok_92, List.forall_mem_cons.mpr ⟨zmt_ok_93, List.forall_mem_cons.mpr ⟨zmt_ok_94, List.forall_mem_cons.mpr ⟨zmt_ok_95, List.forall_mem_cons.mpr ⟨zmt_ok_96, List.forall_mem_cons.mpr ⟨zmt_ok_97, List.forall_mem_cons.mpr ⟨zmt_ok_98, List.forall_mem_cons.mpr ⟨zmt_ok_99, fun _ h => absurd h List.not_mem_nil⟩⟩⟩⟩⟩⟩⟩⟩⟩⟩⟩⟩⟩⟩⟩⟩⟩⟩⟩⟩
set_option maxRecDepth 100000 in
theorem zmt_ok_c5 : ∀ q ∈ [(3, 252, 2, m_X_at), (3, 256, 2, m_X_nextSeed), (3, 259, 2, m_X_drawOf), (3, 262, 1, m_H_howManySee), (3, 269, 2, m_X_pairBit), (4, 68, 2, m_M_in), (4, 72, 0, m_M_isOne), (4, 80, 2, m_M_straight), (4, 84, 0, m_M_oneIn), (4, 88, 0, m_M_reachOf), (4, 91, 0, m_M_nextFrom), (4, 94, 0, m_M_depthOf), (4, 97, 0, m_M_aheadOf), (4, 103, 0, m_M_stepTo), (4, 113, 0, m_M_lensOf), (4, 116, 0, m_M_goesBy), (4, 119, 0, m_M_nightBy), (4, 123, 0, m_M_refuse), (4, 136, 0, m_M_here), (4, 144, 0, m_M_readDigits)], zmtP q := List.forall_mem_cons.mpr ⟨zmt_ok_100, List.forall_mem_cons.mpr ⟨zmt_ok_101, List.forall_mem_cons.mpr ⟨zmt_ok_102, List.forall_mem_cons.mpr ⟨zmt_ok_103, List.forall_mem_cons.mpr ⟨zmt_ok_104, List.forall_mem_cons.mpr ⟨zmt_ok_105, List.forall_mem_cons.mpr ⟨zmt_ok_106, List.forall_mem_cons.mpr ⟨zmt_ok_107, List.forall_mem_cons.mpr ⟨zmt_ok_108, List.forall_mem_cons.mpr ⟨zmt_ok_109, List.forall_mem_cons.mpr ⟨zmt_ok_110, List.forall_mem_cons.mpr ⟨zmt_ok_111, List.forall_mem_cons.mpr ⟨zmt_ok_112, List.forall_mem_cons.mpr ⟨zmt_ok_113, List.forall_mem_cons.mpr ⟨zmt_ok_114, List.forall_mem_cons.mpr ⟨zmt_ok_115, List.forall_mem_cons.mpr ⟨zmt_ok_116, List.forall_mem_cons.mpr ⟨zmt_ok_117, List.forall_mem_cons.mpr ⟨zmt_ok_118, List.forall_mem_cons.mpr ⟨zmt_ok_119, fun _ h => absurd h List.not_mem_nil⟩⟩⟩⟩⟩⟩⟩⟩⟩⟩⟩⟩⟩⟩⟩⟩⟩⟩⟩⟩
set_option maxRecDepth 100000 in
theorem zmt_ok_c6 : ∀ q ∈ [(4, 150, 2, m_M_isLetter), (4, 153, 0, m_M_readNumbers), (4, 156, 0, m_M_oneComes), (4, 162, 0, m_M_goNights), (4, 165, 0, m_M_readStatement), (4, 168, 0, m_M_think), (4, 171, 0, m_M_comesTold), (4, 174, 0, m_M_again), (4, 189, 0, m_M_carry), (4, 192, 0, m_M_carryAll), (4, 201, 2, m_M_wrongNumber), (4, 204, 2, m_M_isCell), (4, 209, 0, m_M_keepTurn), (4, 212, 0, m_M_allOfStarts), (4, 215, 2, m_M_wrongBit), (4, 218, 0, m_M_watchersOf), (4, 221, 2, m_M_hasBit), (4, 231, 2, m_M_onesOf), (4, 234, 0, m_M_chainFrom), (4, 240, 0, m_M_isRow)], zmtP q := List.forall_mem_cons.mpr ⟨zmt_ok_120, List.forall_mem_cons.mpr ⟨zmt_ok_121, List.forall_mem_cons.mpr ⟨zmt_ok_122, List.forall_mem_cons.mpr ⟨zmt_ok_123, List.forall_mem_cons.mpr ⟨zmt_ok_124, List.forall_mem_cons.mpr ⟨zmt_ok_125, List.forall_mem_cons.mpr ⟨zmt_ok_126, List.forall_mem_cons.mpr ⟨zmt_ok_127, List.forall_mem_cons.mpr ⟨zmt_ok_128, List.forall_mem_cons.mpr ⟨zmt_ok_129, List.forall_mem_cons.mpr ⟨zmt_ok_130, List.forall_mem_cons.mpr ⟨zmt_ok_131, List.forall_mem_cons.mpr ⟨zmt_ok_132, List.forall_mem_cons.mpr ⟨zmt_ok_133, List.forall_mem_cons.mpr ⟨zmt_ok_134, List.forall_mem_cons.mpr ⟨zmt_ok_135, List.forall_mem_cons.mpr ⟨zmt_ok_136, List.forall_mem_cons.mpr ⟨zmt_ok_137, List.forall_mem_cons.mpr ⟨zmt_ok_138, List.forall_mem_cons.mpr ⟨zmt_ok_139, fun _ h => absurd h List.not_mem_nil⟩⟩⟩⟩⟩⟩⟩⟩⟩⟩⟩⟩⟩⟩⟩⟩⟩⟩⟩⟩
set_option maxRecDepth 100000 in
theorem zmt_ok_c7 : ∀ q ∈ [(4, 243, 0, m_M_stepFrom), (4, 247, 0, m_M_areTwo), (4, 250, 0, m_M_areResting), (4, 253, 2, m_M_divisor), (4, 259, 2, m_M_partOf), (4, 263, 2, m_M_apart), (4, 272, 0, m_M_drawBelow), (5, 9, 4, m_X_init), (5, 12, 4, m_M_init), (5, 13, 0, m_X_feed), (5, 17, 0, m_M_feed), (5, 18, 0, m_X_hill), (5, 22, 0, m_M_hill), (5, 23, 0, m_X_personOf), (5, 27, 0, m_M_personOf), (5, 28, 0, m_X_person), (5, 32, 0, m_M_person), (5, 33, 0, m_X_turns), (5, 36, 0, m_M_turns), (5, 37, 0, m_X_stands)], zmtP q := List.forall_mem_cons.mpr ⟨zmt_ok_140, List.forall_mem_cons.mpr ⟨zmt_ok_141, List.forall_mem_cons.mpr ⟨zmt_ok_142, List.forall_mem_cons.mpr ⟨zmt_ok_143, List.forall_mem_cons.mpr ⟨zmt_ok_144, List.forall_mem_cons.mpr ⟨zmt_ok_145, List.forall_mem_cons.mpr ⟨zmt_ok_146, List.forall_mem_cons.mpr ⟨zmt_ok_147, List.forall_mem_cons.mpr ⟨zmt_ok_148, List.forall_mem_cons.mpr ⟨zmt_ok_149, List.forall_mem_cons.mpr ⟨zmt_ok_150, List.forall_mem_cons.mpr ⟨zmt_ok_151, List.forall_mem_cons.mpr ⟨zmt_ok_152, List.forall_mem_cons.mpr ⟨zmt_ok_153, List.forall_mem_cons.mpr ⟨zmt_ok_154, List.forall_mem_cons.mpr ⟨zmt_ok_155, List.forall_mem_cons.mpr ⟨zmt_ok_156, List.forall_mem_cons.mpr ⟨zmt_ok_157, List.forall_mem_cons.mpr ⟨zmt_ok_158, List.forall_mem_cons.mpr ⟨zmt_ok_159, fun _ h => absurd h List.not_mem_nil⟩⟩⟩⟩⟩⟩⟩⟩⟩⟩⟩⟩⟩⟩⟩⟩⟩⟩⟩⟩
set_option maxRecDepth 100000 in
theorem zmt_ok_c8 : ∀ q ∈ [(5, 40, 0, m_M_stands), (5, 41, 0, m_X_nights), (5, 44, 0, m_M_nights), (5, 45, 0, m_X_back), (5, 48, 0, m_M_back), (5, 49, 0, m_X_behind), (5, 53, 0, m_M_behind), (5, 54, 0, m_X_allStarts), (5, 57, 0, m_M_allStarts), (5, 58, 0, m_X_first), (5, 61, 0, m_M_first), (5, 62, 0, m_X_still), (5, 65, 0, m_M_still), (5, 66, 0, m_X_unseen), (5, 69, 0, m_M_unseen), (5, 70, 0, m_X_chain), (5, 73, 0, m_M_chain), (5, 74, 0, m_X_deepest), (5, 77, 0, m_M_deepest), (5, 78, 0, m_X_knows)], zmtP q := List.forall_mem_cons.mpr ⟨zmt_ok_160, List.forall_mem_cons.mpr ⟨zmt_ok_161, List.forall_mem_cons.mpr ⟨zmt_ok_162, List.forall_mem_cons.mpr ⟨zmt_ok_163, List.forall_mem_cons.mpr ⟨zmt_ok_164, List.forall_mem_cons.mpr ⟨zmt_ok_165, List.forall_mem_cons.mpr ⟨zmt_ok_166, List.forall_mem_cons.mpr ⟨zmt_ok_167, List.forall_mem_cons.mpr ⟨zmt_ok_168, List.forall_mem_cons.mpr ⟨zmt_ok_169, List.forall_mem_cons.mpr ⟨zmt_ok_170, List.forall_mem_cons.mpr ⟨zmt_ok_171, List.forall_mem_cons.mpr ⟨zmt_ok_172, List.forall_mem_cons.mpr ⟨zmt_ok_173, List.forall_mem_cons.mpr ⟨zmt_ok_174, List.forall_mem_cons.mpr ⟨zmt_ok_175, List.forall_mem_cons.mpr ⟨zmt_ok_176, List.forall_mem_cons.mpr ⟨zmt_ok_177, List.forall_mem_cons.mpr ⟨zmt_ok_178, List.forall_mem_cons.mpr ⟨zmt_ok_179, fun _ h => absurd h List.not_mem_nil⟩⟩⟩⟩⟩⟩⟩⟩⟩⟩⟩⟩⟩⟩⟩⟩⟩⟩⟩⟩
set_option maxRecDepth 100000 in
theorem zmt_ok_c9 : ∀ q ∈ [(5, 81, 0, m_M_knows), (5, 82, 0, m_X_safe), (5, 85, 0, m_M_safe), (5, 86, 0, m_X_alone), (5, 89, 0, m_M_alone), (5, 90, 0, m_X_turnAll), (5, 93, 0, m_M_turnAll), (5, 94, 0, m_X_post), (5, 97, 0, m_M_post), (5, 98, 0, m_X_which), (5, 101, 0, m_M_which), (5, 102, 0, m_X_bestStep), (5, 105, 0, m_M_bestStep), (5, 106, 0, m_X_two), (5, 109, 0, m_M_two), (5, 110, 0, m_X_slept), (5, 114, 0, m_M_slept), (5, 115, 0, m_X_busiest), (5, 118, 0, m_M_busiest), (5, 119, 0, m_X_twos)], zmtP q := List.forall_mem_cons.mpr ⟨zmt_ok_180, List.forall_mem_cons.mpr ⟨zmt_ok_181, List.forall_mem_cons.mpr ⟨zmt_ok_182, List.forall_mem_cons.mpr ⟨zmt_ok_183, List.forall_mem_cons.mpr ⟨zmt_ok_184, List.forall_mem_cons.mpr ⟨zmt_ok_185, List.forall_mem_cons.mpr ⟨zmt_ok_186, List.forall_mem_cons.mpr ⟨zmt_ok_187, List.forall_mem_cons.mpr ⟨zmt_ok_188, List.forall_mem_cons.mpr ⟨zmt_ok_189, List.forall_mem_cons.mpr ⟨zmt_ok_190, List.forall_mem_cons.mpr ⟨zmt_ok_191, List.forall_mem_cons.mpr ⟨zmt_ok_192, List.forall_mem_cons.mpr ⟨zmt_ok_193, List.forall_mem_cons.mpr ⟨zmt_ok_194, List.forall_mem_cons.mpr ⟨zmt_ok_195, List.forall_mem_cons.mpr ⟨zmt_ok_196, List.forall_mem_cons.mpr ⟨zmt_ok_197, List.forall_mem_cons.mpr ⟨zmt_ok_198, List.forall_mem_cons.mpr ⟨zmt_ok_199, fun _ h => absurd h List.not_mem_nil⟩⟩⟩⟩⟩⟩⟩⟩⟩⟩⟩⟩⟩⟩⟩⟩⟩⟩⟩⟩
set_option maxRecDepth 100000 in
theorem zmt_ok_c10 : ∀ q ∈ [(5, 122, 0, m_M_twos), (5, 123, 0, m_X_nearest), (5, 126, 0, m_M_nearest), (5, 127, 0, m_X_lines), (5, 130, 0, m_M_lines), (5, 131, 0, m_X_hidden), (5, 134, 0, m_M_hidden), (5, 135, 0, m_X_longest), (5, 138, 0, m_M_longest), (5, 139, 0, m_X_walks), (5, 142, 0, m_M_walks), (5, 143, 0, m_X_meets), (5, 146, 0, m_M_meets), (5, 147, 0, m_X_leave), (5, 150, 0, m_M_leave), (5, 151, 0, m_X_most), (5, 154, 0, m_M_most), (5, 155, 0, m_X_quiet), (5, 158, 0, m_M_quiet), (5, 159, 0, m_X_row)], zmtP q := List.forall_mem_cons.mpr ⟨zmt_ok_200, List.forall_mem_cons.mpr ⟨zmt_ok_201, List.forall_mem_cons.mpr ⟨zmt_ok_202, List.forall_mem_cons.mpr ⟨zmt_ok_203, List.forall_mem_cons.mpr ⟨zmt_ok_204, List.forall_mem_cons.mpr ⟨zmt_ok_205, List.forall_mem_cons.mpr ⟨zmt_ok_206, List.forall_mem_cons.mpr ⟨zmt_ok_207, List.forall_mem_cons.mpr ⟨zmt_ok_208, List.forall_mem_cons.mpr ⟨zmt_ok_209, List.forall_mem_cons.mpr ⟨zmt_ok_210, List.forall_mem_cons.mpr ⟨zmt_ok_211, List.forall_mem_cons.mpr ⟨zmt_ok_212, List.forall_mem_cons.mpr ⟨zmt_ok_213, List.forall_mem_cons.mpr ⟨zmt_ok_214, List.forall_mem_cons.mpr ⟨zmt_ok_215, List.forall_mem_cons.mpr ⟨zmt_ok_216, List.forall_mem_cons.mpr ⟨zmt_ok_217, List.forall_mem_cons.mpr ⟨zmt_ok_218, List.forall_mem_cons.mpr ⟨zmt_ok_219, fun _ h => absurd h List.not_mem_nil⟩⟩⟩⟩⟩⟩⟩⟩⟩⟩⟩⟩⟩⟩⟩⟩⟩⟩⟩⟩
set_option maxRecDepth 100000 in
theorem zmt_ok_c11 : ∀ q ∈ [(5, 162, 0, m_M_row), (5, 163, 0, m_X_judge), (5, 166, 0, m_M_judge), (5, 167, 0, m_X_clear), (5, 170, 0, m_M_clear), (5, 171, 0, m_X_lots), (5, 174, 0, m_M_lots), (5, 175, 0, m_X_image), (5, 178, 0, m_M_image), (5, 179, 0, m_X_restore), (5, 182, 0, m_M_restore), (5, 183, 0, m_X_count), (5, 186, 0, m_M_count)], zmtP q := List.forall_mem_cons.mpr ⟨zmt_ok_220, List.forall_mem_cons.mpr ⟨zmt_ok_221, List.forall_mem_cons.mpr ⟨zmt_ok_222, List.forall_mem_cons.mpr ⟨zmt_ok_223, List.forall_mem_cons.mpr ⟨zmt_ok_224, List.forall_mem_cons.mpr ⟨zmt_ok_225, List.forall_mem_cons.mpr ⟨zmt_ok_226, List.forall_mem_cons.mpr ⟨zmt_ok_227, List.forall_mem_cons.mpr ⟨zmt_ok_228, List.forall_mem_cons.mpr ⟨zmt_ok_229, List.forall_mem_cons.mpr ⟨zmt_ok_230, List.forall_mem_cons.mpr ⟨zmt_ok_231, List.forall_mem_cons.mpr ⟨zmt_ok_232, fun _ h => absurd h List.not_mem_nil⟩⟩⟩⟩⟩⟩⟩⟩⟩⟩⟩⟩⟩
set_option maxRecDepth 100000 in
theorem zmt_ok : ∀ q ∈ zmtT, zmtP q := List.forall_mem_append.mpr ⟨zmt_ok_c0, List.forall_mem_append.mpr ⟨zmt_ok_c1, List.forall_mem_append.mpr ⟨zmt_ok_c2, List.forall_mem_append.mpr ⟨zmt_ok_c3, List.forall_mem_append.mpr ⟨zmt_ok_c4, List.forall_mem_append.mpr ⟨zmt_ok_c5, List.forall_mem_append.mpr ⟨zmt_ok_c6, List.forall_mem_append.mpr ⟨zmt_ok_c7, List.forall_mem_append.mpr ⟨zmt_ok_c8, List.forall_mem_append.mpr ⟨zmt_ok_c9, List.forall_mem_append.mpr ⟨zmt_ok_c10, zmt_ok_c11⟩⟩⟩⟩⟩⟩⟩⟩⟩⟩⟩
def zgw : List Jvm.Cond := zTs.filter zgd
theorem zgood {w : Jvm.Cond} (h : w ∈ zgw) : w ∈ zTs ∧ ((w.onTables && w.keeps) = true ∨ ∃ ty, w = .arrayClass ty) := by
  obtain ⟨h1, h2⟩ := List.mem_filter.mp h
  refine ⟨h1, ?_⟩
  unfold zgd at h2
  rcases Bool.or_eq_true_iff.mp h2 with h | h
  · exact Or.inl h
  · cases w with
    | arrayClass ty => exact Or.inr ⟨ty, rfl⟩
    | _ => cases h
end
section
/-! the evaluator's heap as a world of the machine; one step -/
def zad (b bs a : Nat) : Nat := match a with | 0 => b | n + 1 => bs + n
def zcv (b bs : Nat) : Value → Value := fun v => match v with | .ref a => .ref (zad b bs a) | v => v
theorem zcv_cat (b bs : Nat) (v : Value) : (zcv b bs v).category = v.category := by cases v <;> rfl
def zra (bs v : Nat) : Option Nat := match v with | 0 => none | n + 1 => some (bs + n)
theorem zra_rf (b bs v : Nat) : va_rf (zra bs v) = zcv b bs (zrv v) := by cases v <;> rfl
def zfv (b bs : Nat) (p : zP) (h : zH) (q c j : Nat) : Value := match zfk c j with | 2 => zcv b bs (zrv (zlk p.2 q j)) | 3 => zcv b bs (zrv h.2) | _ => .int (h.1 q j)
def zfs (b bs : Nat) (p : zP) (h : zH) (q c : Nat) : List Value := (List.range (zNf c)).map (zfv b bs p h q c)
theorem zfs_get {b bs : Nat} {p : zP} {h : zH} {q c j : Nat} (hj : j < zNf c) : (zfs b bs p h q c)[j]? = some (zfv b bs p h q c j) := by
  unfold zfs
  rw [List.getElem?_map, List.getElem?_range hj]
  rfl
theorem zfs_len {b bs : Nat} {p : zP} {h : zH} {q c : Nat} : (zfs b bs p h q c).length = zNf c := by simp [zfs]
def zce (b bs : Nat) (cI cH : ClassId) (p : zP) (h : zH) (q : Nat) : va_E := match zSH.getD q (9, 0) with
  | (0, n) => .inl (cI, n, .inl (fun j => h.1 (q + 1) j))
  | (1, n) => .inl (cH, n, .inr (.inr (.inr (.inr (fun j => zra bs (zlk p.2 (q + 1) j))))))
  | (c + 2, _) => .inr (c, zfs b bs p h (q + 1) c)
def zws (b bs : Nat) (cI cH : ClassId) (p : zP) (h : zH) : va_W := (List.range p.1).map (fun q => (bs + q, zce b bs cI cH p h q))
theorem zws_get {b bs : Nat} {cI cH : ClassId} {p : zP} {h : zH} {q : Nat} (hq : q < p.1) : (zws b bs cI cH p h)[q]? = some (bs + q, zce b bs cI cH p h q) := by
  unfold zws
  rw [List.getElem?_map, List.getElem?_range hq]
  rfl
theorem zws_inv {b bs : Nat} {cI cH : ClassId} {p : zP} {h : zH} {q : Nat} {x : Nat × va_E} (hx : (zws b bs cI cH p h)[q]? = some x) : q < p.1 ∧ x = (bs + q, zce b bs cI cH p h q) := by
  have hl : q < p.1 := by
    have := (List.getElem?_eq_some_iff.mp hx).1
    simpa [zws] using this
  rw [zws_get hl] at hx
  exact ⟨hl, (Option.some.inj hx).symm⟩
theorem zws_D {b bs : Nat} {cI cH : ClassId} {p : zP} {h : zH} : va_D (fun q => bs ≤ q) (zws b bs cI cH p h) := by
  refine ⟨fun i j x y hx hy hxy => ?_, fun k q hq => ?_⟩
  · obtain ⟨-, rfl⟩ := zws_inv hx
    obtain ⟨-, rfl⟩ := zws_inv hy
    have : bs + i = bs + j := hxy
    omega
  · obtain ⟨-, rfl⟩ := zws_inv hq
    exact Nat.le_add_right _ _
theorem zws_set {b bs : Nat} {cI cH : ClassId} {p p' : zP} {h h' : zH} {q : Nat} {e : va_E} (hq : q < p.1) (hp : p'.1 = p.1) (h1 : ∀ i, i < p.1 → i ≠ q → zce b bs cI cH p' h' i = zce b bs cI cH p h i) (h2 : zce b bs cI cH p' h' q = e) : (zws b bs cI cH p h).set q (bs + q, e) = zws b bs cI cH p' h' := by
  refine List.ext_getElem? fun i => ?_
  by_cases hi : i < p.1
  · rw [zws_get (by rw [hp]; exact hi)]
    by_cases hiq : i = q
    · subst hiq
      rw [List.getElem?_set_self (by simpa [zws] using hi), h2]
    · rw [List.getElem?_set_ne (Ne.symm hiq), zws_get hi, h1 i hi hiq]
  · rw [List.getElem?_eq_none (by simp [zws]; omega), List.getElem?_eq_none (by simp [zws]; omega)]
theorem zws_push {b bs : Nat} {cI cH : ClassId} {p p' : zP} {h h' : zH} {e : va_E} (hp : p'.1 = p.1 + 1) (h1 : ∀ i, i < p.1 → zce b bs cI cH p' h' i = zce b bs cI cH p h i) (h2 : zce b bs cI cH p' h' p.1 = e) : zws b bs cI cH p h ++ [(bs + p.1, e)] = zws b bs cI cH p' h' := by
  unfold zws
  rw [hp, List.range_succ, List.map_append]
  congr 1
  · refine List.map_congr_left fun i hi => ?_
    rw [h1 i (List.mem_range.mp hi)]
  · simp [h2]
theorem zcl_pos {cn a : Nat} (h : (zcl cn a).1 ≠ 9) : ∃ q, a = q + 1 ∧ q < cn ∧ zSH.getD q (9, 0) = zcl cn a := by
  unfold zcl at h ⊢
  by_cases ha : a ≤ cn
  · rw [if_pos ha] at h ⊢
    cases a with
    | zero => exact absurd rfl h
    | succ q => exact ⟨q, rfl, ha, rfl⟩
  · rw [if_neg ha] at h
    exact absurd rfl h
/-- the locals -/
def zlv (b bs : Nat) (ls : zL) : List (Nat × Value) := (List.range ls.length).filterMap fun i => match ls[i]? with | some (some v) => some (i, zcv b bs v) | _ => none
theorem zlv_mem {b bs : Nat} {ls : zL} {i : Nat} {v : Value} (h : ls[i]? = some (some v)) : (i, zcv b bs v) ∈ zlv b bs ls := by
  refine List.mem_filterMap.mpr ⟨i, List.mem_range.mpr (List.getElem?_eq_some_iff.mp h).1, ?_⟩
  rw [h]
theorem zlv_inv {b bs : Nat} {ls : zL} {q : Nat × Value} (h : q ∈ zlv b bs ls) : ∃ v, ls[q.1]? = some (some v) ∧ q.2 = zcv b bs v := by
  obtain ⟨i, -, hi⟩ := List.mem_filterMap.mp h
  cases hl : ls[i]? with
  | none => rw [hl] at hi; cases hi
  | some o =>
    cases o with
    | none => rw [hl] at hi; cases hi
    | some v =>
      rw [hl] at hi
      cases hi
      exact ⟨v, hl, rfl⟩
def zLo (b bs : Nat) (ls : zL) (Ls : Array Slot) (nL : Nat) : Prop := Ls.size = nL ∧ ls.length = nL ∧ lv_wf Ls ∧ ∀ (i : Nat) (v : Value), ls[i]? = some (some v) → Ls[i]? = some (Slot.val (zcv b bs v))
theorem zLo.has {b bs : Nat} {ls : zL} {Ls : Array Slot} {nL : Nat} (h : zLo b bs ls Ls nL) : lv_has Ls nL (zlv b bs ls) := ⟨h.1, h.2.2.1, fun q hq => by
  obtain ⟨v, h1, h2⟩ := zlv_inv hq
  rw [h2]
  exact h.2.2.2 q.1 v h1⟩
theorem zkl_len (ls : zL) (i : Nat) : (zkl ls i).length = ls.length := by
  unfold zkl
  cases i with
  | zero => rfl
  | succ j =>
    dsimp only
    split
    · split
      · simp
      · rfl
    · rfl
theorem zkl_get {ls : zL} {i j : Nat} {w : Value} (h : (zkl ls i)[j]? = some (some w)) : ls[j]? = some (some w) ∧ (j + 1 = i → ¬ w.category = 2) := by
  unfold zkl at h
  cases i with
  | zero => exact ⟨h, fun q => by omega⟩
  | succ k =>
    dsimp only at h
    cases hk : ls[k]? with
    | none =>
      rw [hk] at h
      refine ⟨h, fun q => ?_⟩
      have : j = k := by omega
      subst this
      rw [hk] at h; cases h
    | some o =>
      rw [hk] at h
      cases o with
      | none =>
        refine ⟨h, fun q => ?_⟩
        have : j = k := by omega
        subst this
        rw [hk] at h; cases h
      | some v =>
        dsimp only at h
        by_cases hc : v.category = 2
        · rw [if_pos hc] at h
          by_cases hjk : k = j
          · subst hjk
            rw [List.getElem?_set_self (List.getElem?_eq_some_iff.mp hk).1] at h
            cases h
          · rw [List.getElem?_set_ne hjk] at h
            exact ⟨h, fun q => by omega⟩
        · rw [if_neg hc] at h
          refine ⟨h, fun q => ?_⟩
          have : j = k := by omega
          subst this
          rw [hk] at h
          cases h
          exact hc
theorem zLo.put1 {b bs : Nat} {ls : zL} {Ls Ls' : Array Slot} {nL i : Nat} {v : Value} (h : zLo b bs ls Ls nL) (h' : lv_has Ls' nL ((i, zcv b bs v) :: (zlv b bs ls).filter (fun q => !(q.1 == i) && !(q.1 + 1 == i && q.2.category == 2)))) (hi : i < ls.length) : zLo b bs (zput1 ls i v) Ls' nL := by
  refine ⟨h'.1, by unfold zput1; rw [List.length_set, zkl_len]; exact h.2.1, h'.2.1, fun j w hw => ?_⟩
  unfold zput1 at hw
  by_cases hij : i = j
  · subst hij
    rw [List.getElem?_set_self (by rw [zkl_len]; exact hi)] at hw
    cases hw
    exact h'.2.2 _ List.mem_cons_self
  · rw [List.getElem?_set_ne hij] at hw
    obtain ⟨h1, h2⟩ := zkl_get hw
    refine h'.2.2 (j, zcv b bs w) (List.mem_cons_of_mem _ (List.mem_filter.mpr ⟨zlv_mem h1, ?_⟩))
    dsimp only
    rw [zcv_cat]
    by_cases hj1 : j + 1 = i
    · have := h2 hj1
      simp [Ne.symm hij, this]
    · simp [Ne.symm hij, hj1]
theorem zLo.put2 {b bs : Nat} {ls : zL} {Ls Ls' : Array Slot} {nL i : Nat} {v : Value} (h : zLo b bs ls Ls nL) (h' : lv_has Ls' nL ((i, zcv b bs v) :: (zlv b bs ls).filter (fun q => !(q.1 == i) && (!(q.1 == i + 1) && !(q.1 + 1 == i && q.2.category == 2))))) (hi : i + 1 < ls.length) : zLo b bs (zput2 ls i v) Ls' nL := by
  refine ⟨h'.1, by unfold zput2; rw [List.length_set, List.length_set, zkl_len]; exact h.2.1, h'.2.1, fun j w hw => ?_⟩
  unfold zput2 at hw
  by_cases hij1 : i + 1 = j
  · subst hij1
    rw [List.getElem?_set_self (by rw [List.length_set, zkl_len]; exact hi)] at hw
    cases hw
  · rw [List.getElem?_set_ne hij1] at hw
    by_cases hij : i = j
    · subst hij
      rw [List.getElem?_set_self (by rw [zkl_len]; omega)] at hw
      cases hw
      exact h'.2.2 _ List.mem_cons_self
    · rw [List.getElem?_set_ne hij] at hw
      obtain ⟨h1, h2⟩ := zkl_get hw
      refine h'.2.2 (j, zcv b bs w) (List.mem_cons_of_mem _ (List.mem_filter.mpr ⟨zlv_mem h1, ?_⟩))
      dsimp only
      rw [zcv_cat]
      by_cases hj1 : j + 1 = i
      · have := h2 hj1
        simp [Ne.symm hij, Ne.symm hij1, this]
      · simp [Ne.symm hij, Ne.symm hij1, hj1]
theorem zfd_in : ∀ (T : List (Nat × Nat × Nat × Nat × Nat)) (o ix : Nat), (zfd0 T o ix).2.2 ≠ 7 → ∃ q ∈ T, q.1 = o ∧ q.2.1 = ix ∧ q.2.2 = zfd0 T o ix := by
  intro T
  induction T with
  | nil => intro o ix h; exact absurd rfl h
  | cons q r ih =>
    intro o ix h
    unfold zfd0 at h ⊢
    by_cases hq : q.1 = o ∧ q.2.1 = ix
    · rw [if_pos hq] at h ⊢
      exact ⟨q, List.mem_cons_self, hq.1, hq.2, rfl⟩
    · rw [if_neg hq] at h ⊢
      obtain ⟨x, h1, h2⟩ := ih o ix h
      exact ⟨x, List.mem_cons_of_mem _ h1, h2⟩
theorem zfd_P {o ix : Nat} (h : (zfd o ix).2.2 ≠ 7) : zfdP (o, ix, zfd o ix) := by
  obtain ⟨q, h1, h2, h3, h4⟩ := zfd_in zfdT o ix h
  have := zfd_ok q h1
  obtain ⟨a, b, c⟩ := q
  dsimp only at h2 h3 h4
  subst h2; subst h3; subst h4
  exact this
theorem zco_in {α : Type} : ∀ (T : List (Nat × Nat × α)) (o ix : Nat) (v : α), zco0 T o ix = some v → (o, ix, v) ∈ T := by
  intro T
  induction T with
  | nil => intro o ix v h; cases h
  | cons q r ih =>
    intro o ix v h
    unfold zco0 at h
    by_cases hq : q.1 = o ∧ q.2.1 = ix
    · rw [if_pos hq] at h
      obtain ⟨a, b, c⟩ := q
      dsimp only at hq
      obtain ⟨rfl, rfl⟩ := hq
      cases h
      exact List.mem_cons_self
    · rw [if_neg hq] at h
      exact List.mem_cons_of_mem _ (ih o ix v h)
end
section
section zstep
variable {p : Program} {l : Launch} {e : Env} {R : Room} {s : State} {m : MethodId} {args : Array Value} {below : List Frame} {meth : Method} {c : Code} {H : Heap} {locs : List Loc} {cells slots : Nat} {Q : State → Prop}
variable {cc : ByteArray} {pc : Nat} {Ls : Array Slot} {st : List Value}
theorem ztg_eq {o : Int} {t : Nat} (h : ztg pc o = some t) : (pc : Int) + o = (t : Int) := by
  unfold ztg at h
  by_cases hc : ((((pc : Int) + o).toNat : Nat) : Int) = (pc : Int) + o
  · rw [if_pos hc] at h
    rw [← Option.some.inj h]
    exact hc.symm
  · rw [if_neg hc] at h; cases h
theorem zsd_ld {i : Instr} {j ty n : Nat} {v : Value} (hx : p.tables.exec = Jvm.exec) (hb : c.code = cc) (hi : zldx i = some (j, ty, n)) (hd : decode cc pc = .ok (i, n)) (hl : Ls[j]? = some (Slot.val v)) (hv : zty v = ty) (kk : W p l e R s m args below meth c H locs cells slots Q (F0 m (pc + n) Ls (v :: st))) : W p l e R s m args below meth c H locs cells slots Q (F0 m pc Ls st) := by
  cases i with
  | iload q => cases hi; cases v <;> first | exact lv_iload hx hb hd hl kk | (simp [zty] at hv; done)
  | iload_n q => cases hi; cases v <;> first | exact lv_iload_n hx hb hd rfl hl kk | (simp [zty] at hv; done)
  | lload q => cases hi; cases v <;> first | exact lv_lload hx hb hd hl kk | (simp [zty] at hv; done)
  | lload_n q => cases hi; cases v <;> first | exact lv_lload_n hx hb hd rfl hl kk | (simp [zty] at hv; done)
  | aload q => cases hi; cases v <;> first | exact lv_aload hx hb hd hl kk | (simp [zty] at hv; done)
  | aload_n q => cases hi; cases v <;> first | exact lv_aload_n hx hb hd rfl hl kk | (simp [zty] at hv; done)
  | _ => cases hi
theorem zsd_st1 {i : Instr} {j ty n nL : Nat} {v : Value} {lv : List (Nat × Value)} (hx : p.tables.exec = Jvm.exec) (hb : c.code = cc) (hi : zstx i = some (j, ty, n)) (hd : decode cc pc = .ok (i, n)) (hty : ¬ ty = 2) (hl : lv_has Ls nL lv) (hj : j < nL) (hv : zty v = ty) (kk : ∀ Ls', lv_has Ls' nL ((j, v) :: lv.filter (fun q => !(q.1 == j) && !(q.1 + 1 == j && q.2.category == 2))) → W p l e R s m args below meth c H locs cells slots Q (F0 m (pc + n) Ls' st)) : W p l e R s m args below meth c H locs cells slots Q (F0 m pc Ls (v :: st)) := by
  cases i with
  | istore q => cases hi; cases v <;> first | exact lv_istore hx hb hd hl hj rfl kk | (simp [zty] at hv; done)
  | istore_n q => cases hi; cases v <;> first | exact lv_istore_n hx hb hd rfl hl hj rfl kk | (simp [zty] at hv; done)
  | lstore q => cases hi; exact absurd rfl hty
  | lstore_n q => cases hi; exact absurd rfl hty
  | astore q => cases hi; cases v <;> first | exact lv_astore hx hb hd hl hj rfl kk | (simp [zty] at hv; done)
  | astore_n q => cases hi; cases v <;> first | exact lv_astore_n hx hb hd rfl hl hj rfl kk | (simp [zty] at hv; done)
  | _ => cases hi
theorem zsd_st2 {i : Instr} {j ty n nL : Nat} {v : Value} {lv : List (Nat × Value)} (hx : p.tables.exec = Jvm.exec) (hb : c.code = cc) (hi : zstx i = some (j, ty, n)) (hd : decode cc pc = .ok (i, n)) (hty : ty = 2) (hl : lv_has Ls nL lv) (hj : j + 1 < nL) (hv : zty v = ty) (kk : ∀ Ls', lv_has Ls' nL ((j, v) :: lv.filter (fun q => !(q.1 == j) && (!(q.1 == j + 1) && !(q.1 + 1 == j && q.2.category == 2)))) → W p l e R s m args below meth c H locs cells slots Q (F0 m (pc + n) Ls' st)) : W p l e R s m args below meth c H locs cells slots Q (F0 m pc Ls (v :: st)) := by
  cases i with
  | istore q => cases hi; cases hty
  | istore_n q => cases hi; cases hty
  | lstore q => cases hi; cases v <;> first | exact lv_lstore hx hb hd hl hj rfl kk | (simp [zty] at hv; done)
  | lstore_n q => cases hi; cases v <;> first | exact lv_lstore_n hx hb hd rfl hl hj rfl kk | (simp [zty] at hv; done)
  | astore q => cases hi; cases hty
  | astore_n q => cases hi; cases hty
  | _ => cases hi
theorem zsd_cst {o : Nat} {i : Instr} {n : Nat} {v : Value} (hx : p.tables.exec = Jvm.exec) (hb : c.code = cc) (hown : s.vm.findClass (zcn o) = some m.cls) (hts : ∀ w ∈ zTs, w.before args s = true) (hi : zcst o i = some (v, n)) (hd : decode cc pc = .ok (i, n)) (kk : W p l e R s m args below meth c H locs cells slots Q (F0 m (pc + n) Ls (v :: st))) : W p l e R s m args below meth c H locs cells slots Q (F0 m pc Ls st) := by
  cases i with
  | iconst q => cases hi; exact lv_iconst hx hb hd rfl kk
  | bipush q => cases hi; exact lv_bipush hx hb hd rfl kk
  | sipush q => cases hi; exact lv_sipush hx hb hd rfl kk
  | lconst q => cases hi; exact lv_lconst hx hb hd rfl kk
  | ldc_w ix =>
    unfold zcst at hi
    dsimp only at hi
    cases hz : zco0 zcoT o ix with
    | none => rw [hz] at hi; cases hi
    | some x =>
      rw [hz] at hi
      cases hi
      exact lv_ldcw hx hb hown (hts _ (zco_ok _ (zco_in _ _ _ _ hz))) hd kk
  | ldc2_w ix =>
    unfold zcst at hi
    dsimp only at hi
    cases hz : zco0 zclT o ix with
    | none => rw [hz] at hi; cases hi
    | some x =>
      rw [hz] at hi
      cases hi
      exact lv_ldc2 hx hb hown (hts _ (zcl_ok _ (zco_in _ _ _ _ hz))) hd kk
  | _ => cases hi
theorem zsd_ar {i : Instr} {x y v : Int32} (hx : p.tables.exec = Jvm.exec) (hb : c.code = cc) (hi : zar i x y = some v) (hd : decode cc pc = .ok (i, 1)) (kk : W p l e R s m args below meth c H locs cells slots Q (F0 m (pc + 1) Ls (.int v :: st))) : W p l e R s m args below meth c H locs cells slots Q (F0 m pc Ls (.int y :: .int x :: st)) := by
  cases i with
  | iadd => cases hi; exact lv_iadd hx hb hd kk
  | isub => cases hi; exact lv_isub hx hb hd kk
  | imul => cases hi; exact lv_imul hx hb hd kk
  | iand => cases hi; exact lv_iand hx hb hd kk
  | ior => cases hi; exact lv_ior hx hb hd kk
  | ixor => cases hi; exact lv_ixor hx hb hd kk
  | ishl => cases hi; exact lv_ishl hx hb hd kk
  | ishr => cases hi; exact lv_ishr hx hb hd kk
  | iushr => cases hi; exact lv_iushr hx hb hd rfl kk
  | idiv =>
    unfold zar at hi
    dsimp only at hi
    by_cases h0 : y = 0
    · rw [if_pos h0] at hi; cases hi
    · rw [if_neg h0] at hi; cases hi; exact lv_idiv hx hb hd h0 kk
  | irem =>
    unfold zar at hi
    dsimp only at hi
    by_cases h0 : y = 0
    · rw [if_pos h0] at hi; cases hi
    · rw [if_neg h0] at hi; cases hi; exact lv_irem hx hb hd h0 kk
  | _ => cases hi
theorem zsd_al {i : Instr} {x y v : Int64} (hx : p.tables.exec = Jvm.exec) (hb : c.code = cc) (hi : zal i x y = some v) (hd : decode cc pc = .ok (i, 1)) (kk : W p l e R s m args below meth c H locs cells slots Q (F0 m (pc + 1) Ls (.long v :: st))) : W p l e R s m args below meth c H locs cells slots Q (F0 m pc Ls (.long y :: .long x :: st)) := by
  cases i with
  | ladd => cases hi; exact lv_ladd hx hb hd kk
  | lsub => cases hi; exact lv_lsub hx hb hd kk
  | lmul => cases hi; exact lv_lmul hx hb hd kk
  | ldiv =>
    unfold zal at hi
    dsimp only at hi
    by_cases h0 : y = 0
    · rw [if_pos h0] at hi; cases hi
    · rw [if_neg h0] at hi; cases hi; exact lv_ldiv hx hb hd h0 kk
  | lrem =>
    unfold zal at hi
    dsimp only at hi
    by_cases h0 : y = 0
    · rw [if_pos h0] at hi; cases hi
    · rw [if_neg h0] at hi; cases hi; exact lv_lrem hx hb hd h0 kk
  | _ => cases hi
theorem zsd_ic {k : Jvm.ClassFile.Cond} {o : Int} {x y : Int32} (hx : p.tables.exec = Jvm.exec) (hb : c.code = cc) (hd : decode cc pc = .ok (.if_icmp k o, 3)) {t : Nat} (ht : (pc : Int) + o = (t : Int)) (kk : W p l e R s m args below meth c H locs cells slots Q (F0 m (if zic k x y = true then t else pc + 3) Ls st)) : W p l e R s m args below meth c H locs cells slots Q (F0 m pc Ls (.int y :: .int x :: st)) := by
  cases k with
  | eq => exact lv_icmp_eq hx hb hd ht (fun h => by rw [if_pos (by simpa [zic] using h)] at kk; exact kk) (fun h => by rw [if_neg (by simpa [zic] using h)] at kk; exact kk)
  | ne => exact lv_icmp_ne hx hb hd ht (fun h => by rw [if_pos (by simpa [zic] using h)] at kk; exact kk) (fun h => by rw [if_neg (by simpa [zic] using h)] at kk; exact kk)
  | lt => exact lv_icmp_lt hx hb hd ht (fun h => by rw [if_pos (by simpa [zic] using h)] at kk; exact kk) (fun h => by rw [if_neg (by simpa [zic] using h)] at kk; exact kk)
  | ge => exact lv_icmp_ge hx hb hd ht (fun h => by rw [if_pos (by simpa [zic] using h)] at kk; exact kk) (fun h => by rw [if_neg (by simpa [zic] using h)] at kk; exact kk)
  | gt => exact lv_icmp_gt hx hb hd ht (fun h => by rw [if_pos (by simpa [zic] using h)] at kk; exact kk) (fun h => by rw [if_neg (by simpa [zic] using h)] at kk; exact kk)
  | le => exact lv_icmp_le hx hb hd ht (fun h => by rw [if_pos (by simpa [zic] using h)] at kk; exact kk) (fun h => by rw [if_neg (by simpa [zic] using h)] at kk; exact kk)
theorem zsd_if {k : Jvm.ClassFile.Cond} {o : Int} {x : Int32} (hx : p.tables.exec = Jvm.exec) (hb : c.code = cc) (hd : decode cc pc = .ok (.ifCond k o, 3)) {t : Nat} (ht : (pc : Int) + o = (t : Int)) (kk : W p l e R s m args below meth c H locs cells slots Q (F0 m (if zic k x 0 = true then t else pc + 3) Ls st)) : W p l e R s m args below meth c H locs cells slots Q (F0 m pc Ls (.int x :: st)) := by
  cases k with
  | eq => exact lv_if_eq hx hb hd ht (fun h => by rw [if_pos (by simpa [zic] using h)] at kk; exact kk) (fun h => by rw [if_neg (by simpa [zic] using h)] at kk; exact kk)
  | ne => exact lv_if_ne hx hb hd ht (fun h => by rw [if_pos (by simpa [zic] using h)] at kk; exact kk) (fun h => by rw [if_neg (by simpa [zic] using h)] at kk; exact kk)
  | lt => exact lv_if_lt hx hb hd ht (fun h => by rw [if_pos (by simpa [zic] using h)] at kk; exact kk) (fun h => by rw [if_neg (by simpa [zic] using h)] at kk; exact kk)
  | ge => exact lv_if_ge hx hb hd ht (fun h => by rw [if_pos (by simpa [zic] using h)] at kk; exact kk) (fun h => by rw [if_neg (by simpa [zic] using h)] at kk; exact kk)
  | gt => exact lv_if_gt hx hb hd ht (fun h => by rw [if_pos (by simpa [zic] using h)] at kk; exact kk) (fun h => by rw [if_neg (by simpa [zic] using h)] at kk; exact kk)
  | le => exact lv_if_le hx hb hd ht (fun h => by rw [if_pos (by simpa [zic] using h)] at kk; exact kk) (fun h => by rw [if_neg (by simpa [zic] using h)] at kk; exact kk)
end zstep
end
section
def zsl (n : Nat) : Nat := ((zSH.take n).map fun q => q.2).sum
theorem zsl_succ : ∀ n, n < 140 → zsl (n + 1) = zsl n + (zSH.getD n (9, 0)).2 := by decide +kernel
def zisr : FieldType → Bool
  | .object _ => true
  | .array _ => true
  | _ => false
theorem zkind0 : ∀ c, c < 5 → ∀ j, j < zNf c → zfk c j = 0 → zTy c j = .int ∧ (zF c j).2.2.2 = false := by decide +kernel
theorem zkind1 : ∀ c, c < 5 → ∀ j, j < zNf c → zfk c j = 1 → zTy c j = .boolean ∧ (zF c j).2.2.2 = false := by decide +kernel
theorem zkind2 : ∀ c, c < 5 → ∀ j, j < zNf c → zfk c j = 2 → zisr (zTy c j) = true ∧ (zF c j).2.2.2 = true := by decide +kernel
theorem zkind3 : ∀ c, c < 5 → ∀ j, j < zNf c → zfk c j = 3 → zisr (zTy c j) = true ∧ (zF c j).2.2.2 = false ∧ c = 4 := by decide +kernel
theorem zkind3u : ∀ c, c < 5 → ∀ i, i < zNf c → ∀ j, j < zNf c → zfk c i = 3 → zfk c j = 3 → i = j := by decide +kernel
theorem zSH_six : ∀ i, i < 140 → (zSH.getD i (9, 0)).1 = 6 → i = 122 := by decide +kernel
theorem zNf_lt {c j : Nat} (h : j < zNf c) : c < 5 := by
  unfold zNf at h
  split at h
  · omega
  · omega
  · omega
  · omega
  · omega
  · exact absurd h (Nat.not_lt_zero _)
theorem zce_obj {b bs : Nat} {cI cH : ClassId} {p : zP} {h : zH} {q c n : Nat} (hs : zSH.getD q (9, 0) = (2 + c, n)) : zce b bs cI cH p h q = .inr (c, zfs b bs p h (q + 1) c) := by
  unfold zce
  rw [hs, Nat.add_comm 2 c]
theorem zce_int {b bs : Nat} {cI cH : ClassId} {p : zP} {h : zH} {q n : Nat} (hs : zSH.getD q (9, 0) = (0, n)) : zce b bs cI cH p h q = .inl (cI, n, .inl (fun j => h.1 (q + 1) j)) := by
  unfold zce
  rw [hs]
theorem zce_row {b bs : Nat} {cI cH : ClassId} {p : zP} {h : zH} {q n : Nat} (hs : zSH.getD q (9, 0) = (1, n)) : zce b bs cI cH p h q = .inl (cH, n, .inr (.inr (.inr (.inr (fun j => zra bs (zlk p.2 (q + 1) j)))))) := by
  unfold zce
  rw [hs]
theorem zce_ext {b bs : Nat} {cI cH : ClassId} {p p' : zP} {h h' : zH} {i : Nat} (h1 : ∀ j, h'.1 (i + 1) j = h.1 (i + 1) j) (h2 : ∀ j, zlk p'.2 (i + 1) j = zlk p.2 (i + 1) j) (h3 : h'.2 = h.2 ∨ (zSH.getD i (9, 0)).1 ≠ 6) : zce b bs cI cH p' h' i = zce b bs cI cH p h i := by
  unfold zce
  split
  · simp only [h1]
  · simp only [h2]
  · rename_i c n hs
    congr 2
    unfold zfs
    refine List.map_congr_left fun j hj => ?_
    have hj := List.mem_range.mp hj
    unfold zfv
    split
    · rw [h2]
    · rename_i hk
      rcases h3 with h3 | h3
      · rw [h3]
      · have := (zkind3 c (zNf_lt hj) j hj hk).2.2
        subst this
        rw [hs] at h3
        exact absurd rfl h3
    · rw [h1]
theorem znar {ty : FieldType} {v : Value} (h : (ty = .int ∧ ∃ x, v = .int x) ∨ (ty = .boolean ∧ (v = .int 0 ∨ v = .int 1)) ∨ (zisr ty = true ∧ ∃ a, v = .ref a)) : narrow ty v = v ∧ fits ty v = true := by
  rcases h with ⟨rfl, x, rfl⟩ | ⟨rfl, rfl | rfl⟩ | ⟨h, a, rfl⟩
  · exact ⟨rfl, rfl⟩
  · exact ⟨rfl, rfl⟩
  · exact ⟨rfl, rfl⟩
  · cases ty with
    | object n => exact ⟨rfl, rfl⟩
    | array t => exact ⟨rfl, rfl⟩
    | _ => cases h
end
section
section zone
variable {p : Program} {l : Launch} {e : Env} {R : Room} {s : State} {m : MethodId} {args : Array Value} {below : List Frame} {meth : Method} {c : Code} {H : Heap} {locs : List Loc} {cells slots : Nat} {Q : State → Prop}
variable {b bs : Nat} {cI cH : ClassId} {D : va_G} {X : zX} {k : zM} {pc pc' len : Nat} {ls ls' : zL} {st st' : List Value} {ph ph' : zP} {h h' : zH} {Ls : Array Slot}
def zFx (p : Program) (s : State) (m : MethodId) (args : Array Value) (meth : Method) (c : Code) (b bs : Nat) (cI cH : ClassId) (D : va_G) (X : zX) (k : zM) : Prop :=
  p.tables.exec = Jvm.exec ∧ c.code = zb k ∧ c.maxLocals = zml k ∧ s.vm.findClass (zcn (zo k)) = some m.cls ∧ (∀ w ∈ zTs, w.before args s = true) ∧ ((zn k).name = "<init>" → meth.name = "<init>") ∧ va_K D zcls [(cI, .int), (cH, .object "SeenFromBehind$Hill")] s ∧ va_X b X.1 X.2 s s.heap ∧ b < bs ∧ bs ≤ s.heap.size
def zSt (s : State) (b bs : Nat) (cI cH : ClassId) (D : va_G) (nL : Nat) (ph : zP) (h : zH) (ls : zL) (H : Heap) (locs : List Loc) (Ls : Array Slot) : Prop :=
  va_P D zcls (zws b bs cI cH ph h) H ∧ H.size = bs + ph.1 ∧ ph.1 ≤ 140 ∧ va_S (fun q => bs ≤ q) s.heap H locs ∧ zLo b bs ls Ls nL
theorem zW0 {a d : Nat} {g : JFrame} (h : W p l e R s m args below meth c H locs (cells + (a - a)) (slots + (d - d)) Q g) : W p l e R s m args below meth c H locs cells slots Q g := by
  rw [Nat.sub_self, Nat.sub_self] at h
  exact h
theorem zgo_inv {t : Option Nat} {q : List Value} {s' : zS} (h : zgo t ls q ph h' = some s') : ∃ n, t = some n ∧ s' = (n, ls, q, ph, h') := by
  unfold zgo at h
  cases t with
  | none => cases h
  | some n => exact ⟨n, rfl, (Option.some.inj h).symm⟩
/-- how the goal goes on -/
def zKK (p : Program) (l : Launch) (e : Env) (R : Room) (s : State) (m : MethodId) (args : Array Value) (below : List Frame) (meth : Method) (c : Code) (cells slots : Nat) (Q : State → Prop) (b bs : Nat) (cI cH : ClassId) (D : va_G) (k : zM) (ph : zP) (s' : zS) : Prop :=
  ∀ H' locs' Ls', zSt s b bs cI cH D (zml k) s'.2.2.2.1 s'.2.2.2.2 s'.2.1 H' locs' Ls' → W p l e R s m args below meth c H' locs' (cells + (s'.2.2.2.1.1 - ph.1)) (slots + (zsl s'.2.2.2.1.1 - zsl ph.1)) Q (F0 m s'.1 Ls' (s'.2.2.1.map (zcv b bs)))
theorem zk_get {ix : Nat} {s' : zS} (F : zFx p s m args meth c b bs cI cH D X k) (S : zSt s b bs cI cH D (zml k) ph h ls H locs Ls) (hd : decode (zb k) pc = .ok (.getfield ix, len)) (hz : zxGet k ix len (pc, ls, st, ph, h) = some s') (kk : zKK p l e R s m args below meth c cells slots Q b bs cI cH D k ph s') : W p l e R s m args below meth c H locs cells slots Q (F0 m pc Ls (st.map (zcv b bs))) := by
  obtain ⟨hx, hb, hml, hown, hts, hnm, hK, hX, hbb, hbs⟩ := F
  obtain ⟨hP, hsz, h140, hS, hL⟩ := id S
  unfold zxGet at hz
  split at hz
  · rename_i pc1 ls1 a r p1 h1 heq
    cases heq
    by_cases hc : len = 3 ∧ zcl ph.1 a = (2 + (zfd (zo k) ix).1, zNf (zfd (zo k) ix).1)
    · rw [if_pos hc] at hz
      obtain ⟨rfl, hcl⟩ := hc
      have h7 : (zfd (zo k) ix).2.2 ≠ 7 := fun q => by rw [q] at hz; cases hz
      obtain ⟨f1, f2, f3, f4, f5⟩ := zfd_P h7
      dsimp only at f1 f2 f3 f4 f5
      obtain ⟨q, rfl, hq, hsh⟩ := zcl_pos (cn := ph.1) (a := a) (by rw [hcl]; intro z; have : 2 + (zfd (zo k) ix).1 = 9 := z; omega)
      rw [hcl] at hsh
      obtain ⟨g1, g2, g3, g4, g5, g6⟩ := zcP_ok _ f1
      have hw := zws_get (b := b) (bs := bs) (cI := cI) (cH := cH) (p := ph) (h := h) hq
      rw [zce_obj hsh] at hw
      have go : ∀ v : Value, zfv b bs ph h (q + 1) (zfd (zo k) ix).1 (zfd (zo k) ix).2.1 = zcv b bs v → W p l e R s m args below meth c H locs cells slots Q (F0 m (pc + 3) Ls (zcv b bs v :: r.map (zcv b bs))) → W p l e R s m args below meth c H locs cells slots Q (F0 m pc Ls ((Value.ref (q + 1) :: r).map (zcv b bs))) := fun v hv kv => by
        rcases f5 with f5 | ⟨f6, f5⟩
        · exact va_get (D := D) hx hb hts g1 hown hK hP q hw g6 _ f2 (hts _ f5) (fun x z => by rw [f4] at z; exact z) (zfs_get f2) hd (by rw [hv]; exact kv)
        · exact va_getN (D := D) hx hb hts g1 hown hK hP q hw g6 _ f2 (hts _ f5) (fun x z => by rw [f4] at z; exact z) (zfs_get f2) hd (by rw [hv]; exact kv)
      split at hz
      · rename_i hk
        cases hz
        refine go (.int _) (by unfold zfv; rw [f3, hk]; rfl) (zW0 (kk H locs Ls S))
      · rename_i hk
        cases hz
        refine go (.int _) (by unfold zfv; rw [f3, hk]; rfl) (zW0 (kk H locs Ls S))
      · rename_i hk
        cases hz
        refine go _ (by unfold zfv; rw [f3, hk]; rfl) (zW0 (kk H locs Ls S))
      · rename_i hk
        cases hz
        refine go _ (by unfold zfv; rw [f3, hk]; rfl) (zW0 (kk H locs Ls S))
      · cases hz
    · rw [if_neg hc] at hz; cases hz
  · cases hz
theorem zk_put {ix : Nat} {s' : zS} (F : zFx p s m args meth c b bs cI cH D X k) (S : zSt s b bs cI cH D (zml k) ph h ls H locs Ls) (hd : decode (zb k) pc = .ok (.putfield ix, len)) (hz : zxPut k ix len (pc, ls, st, ph, h) = some s') (kk : zKK p l e R s m args below meth c cells slots Q b bs cI cH D k ph s') : W p l e R s m args below meth c H locs cells slots Q (F0 m pc Ls (st.map (zcv b bs))) := by
  obtain ⟨hx, hb, hml, hown, hts, hnm, hK, hX, hbb, hbs⟩ := F
  obtain ⟨hP, hsz, h140, hS, hL⟩ := id S
  unfold zxPut at hz
  split at hz
  · rename_i pc1 ls1 v a r p1 h1 heq
    cases heq
    by_cases hc : len = 3 ∧ zcl ph.1 a = (2 + (zfd (zo k) ix).1, zNf (zfd (zo k) ix).1)
    · rw [if_pos hc] at hz
      obtain ⟨rfl, hcl⟩ := hc
      have h7 : (zfd (zo k) ix).2.2 ≠ 7 := fun q => by rw [q] at hz; cases v <;> cases hz
      obtain ⟨f1, f2, f3, f4, f5⟩ := zfd_P h7
      dsimp only at f1 f2 f3 f4 f5
      obtain ⟨q, rfl, hq, hsh⟩ := zcl_pos (cn := ph.1) (a := a) (by rw [hcl]; intro z; have : 2 + (zfd (zo k) ix).1 = 9 := z; omega)
      rw [hcl] at hsh
      obtain ⟨g1, g2, g3, g4, g5, g6⟩ := zcP_ok _ f1
      have k0 := zkind0 _ f1 _ f2
      have k1 := zkind1 _ f1 _ f2
      have k2 := zkind2 _ f1 _ f2
      have k3 := zkind3 _ f1 _ f2
      rw [f3] at k0 k1 k2 k3
      have hw := zws_get (b := b) (bs := bs) (cI := cI) (cH := cH) (p := ph) (h := h) hq
      rw [zce_obj hsh] at hw
      have go : ∀ (v : Value) (ph2 : zP) (h2 : zH), ph2.1 = ph.1 → (∀ i, i < ph.1 → i ≠ q → zce b bs cI cH ph2 h2 i = zce b bs cI cH ph h i) → (∀ i, i < zNf (zfd (zo k) ix).1 → zfv b bs ph2 h2 (q + 1) (zfd (zo k) ix).1 i = if i = (zfd (zo k) ix).2.1 then v else zfv b bs ph h (q + 1) (zfd (zo k) ix).1 i) → (∀ H1, va_P D zcls ((zws b bs cI cH ph h).set q (bs + q, .inr ((zfd (zo k) ix).1, (zfs b bs ph h (q + 1) (zfd (zo k) ix).1).set (zfd (zo k) ix).2.1 v))) H1 → va_P D zcls (zws b bs cI cH ph2 h2) H1) := fun v ph2 h2 e1 e2 e3 H1 z => by
        rw [zws_set (p' := ph2) (h' := h2) hq e1 e2] at z
        · exact z
        · rw [zce_obj hsh]
          congr 2
          refine List.ext_getElem? fun i => ?_
          by_cases hi : i < zNf (zfd (zo k) ix).1
          · rw [zfs_get hi, e3 i hi]
            by_cases hij : i = (zfd (zo k) ix).2.1
            · rw [if_pos hij, hij, List.getElem?_set_self (by rw [zfs_len]; exact f2)]
            · rw [if_neg hij, List.getElem?_set_ne (Ne.symm hij), zfs_get hi]
          · rw [List.getElem?_eq_none (by rw [zfs_len]; omega), List.getElem?_eq_none (by rw [List.length_set, zfs_len]; omega)]
      have hap := va_apart (own := zcn (zo k)) hts g1 (zTy (zfd (zo k) ix).1) g2 g3 hK g6
      obtain ⟨rr, r1, cell, r2, r3, r4, r5⟩ := hP q _ hw
      obtain rfl := Option.some.inj (r1.symm.trans g6)
      obtain ⟨hSl, hfc, kC, hkC, hkind⟩ := hK.1 _ _ g6
      obtain ⟨cf, kf, fi, f, hif, hsl⟩ := hSl _ f2
      have hst := (u_facts hfc hkC (u_lays hts g1 f2) hif).1
      have hlay := hts _ (g1 _ (u_in_lay f2))
      have hfd : s.fieldFound? (zcn (zfd (zo k) ix).1) (zF (zfd (zo k) ix).1 (zfd (zo k) ix).2.1).2.1 (zF (zfd (zo k) ix).1 (zfd (zo k) ix).2.1).2.2.1 = some (cf, kf, fi, f) := by rw [f4] at hif; exact hif
      have fin : ∀ (v : Value) (ph2 : zP) (h2 : zH), ph2.1 = ph.1 → (∀ i, i < ph.1 → i ≠ q → zce b bs cI cH ph2 h2 i = zce b bs cI cH ph h i) → (∀ i, i < zNf (zfd (zo k) ix).1 → zfv b bs ph2 h2 (q + 1) (zfd (zo k) ix).1 i = if i = (zfd (zo k) ix).2.1 then v else zfv b bs ph h (q + 1) (zfd (zo k) ix).1 i) → zKK p l e R s m args below meth c cells slots Q b bs cI cH D k ph (pc + 3, ls, r, ph2, h2) → ∀ H1 : Heap, H1[bs + q]? = some (cell.setSlot f.slot v) → H1.size = H.size → (∀ x, x ≠ bs + q → H1[x]? = H[x]?) → W p l e R s m args below meth c H1 (locs ++ [⟨bs + q, f.slot⟩]) cells slots Q (F0 m (pc + 3) Ls (r.map (zcv b bs))) := fun v ph2 h2 e1 e2 e3 kk H1 w1 w2 w3 => by
        rw [hsl] at w1 ⊢
        have w4 : va_P D zcls ((zws b bs cI cH ph h).set q (bs + q, .inr ((zfd (zo k) ix).1, (zfs b bs ph h (q + 1) (zfd (zo k) ix).1).set (zfd (zo k) ix).2.1 v))) H1 := hP.set zws_D hw ⟨_, g6, t_OB.to (V := updV (vp_V (zfs b bs ph h (q + 1) (zfd (zo k) ix).1)) (zfd (zo k) ix).2.1 v) ⟨_, w1, r3, r4, t_set r5 hap f2 v⟩ (fun j _ => vp_updV_set (by rw [zfs_len]; exact f2) v j)⟩ w3
        have := kk H1 (locs ++ [⟨bs + q, (D.2 (zfd (zo k) ix).1) (zfd (zo k) ix).2.1⟩]) Ls ⟨go v ph2 h2 e1 e2 e3 H1 w4, by rw [w2, hsz]; show _ = bs + ph2.1; rw [e1], by show ph2.1 ≤ 140; rw [e1]; exact h140, hS.put w2 w3 (Nat.le_add_right _ _), hL⟩
        dsimp only at this
        rw [e1] at this
        exact zW0 this
      have put : ∀ (v : Value) (ph2 : zP) (h2 : zH), (zF (zfd (zo k) ix).1 (zfd (zo k) ix).2.1).2.2.2 = false → narrow (zTy (zfd (zo k) ix).1 (zfd (zo k) ix).2.1) v = v ∧ fits (zTy (zfd (zo k) ix).1 (zfd (zo k) ix).2.1) v = true → ph2.1 = ph.1 → (∀ i, i < ph.1 → i ≠ q → zce b bs cI cH ph2 h2 i = zce b bs cI cH ph h i) → (∀ i, i < zNf (zfd (zo k) ix).1 → zfv b bs ph2 h2 (q + 1) (zfd (zo k) ix).1 i = if i = (zfd (zo k) ix).2.1 then v else zfv b bs ph h (q + 1) (zfd (zo k) ix).1 i) → zKK p l e R s m args below meth c cells slots Q b bs cI cH D k ph (pc + 3, ls, r, ph2, h2) → W p l e R s m args below meth c H locs cells slots Q (F0 m pc Ls (v :: Value.ref (bs + q) :: r.map (zcv b bs))) := fun v ph2 h2 hf hn e1 e2 e3 kk => by
        unfold u_lay at hlay
        rw [if_neg (by rw [hf]; decide)] at hlay
        have h6 := u_store hfc hkC hkind hlay hif (g2 _ f2) hn.1 hn.2
        rcases f5 with f5 | ⟨f6, f5⟩
        · exact W.putK hx hb (f := f) ⟨hown, hts _ f5, ⟨_, _, _, hfd⟩, hst⟩ (by rw [r3]; exact h6) r2 r4 (by rw [hsl]; exact k2_hasslot (r5 _ f2)) rfl rfl hd (fin v ph2 h2 e1 e2 e3 kk)
        · exact va_WputK hx hb (f := f) hown (hts _ f5) hfd hst (by rw [r3]; exact h6) r2 r4 (by rw [hsl]; exact k2_hasslot (r5 _ f2)) rfl rfl hd (fin v ph2 h2 e1 e2 e3 kk)
      have other : ∀ (x : Int32) (i : Nat), i < ph.1 → i ≠ q → zce b bs cI cH ph (zup h.1 (q + 1) (zfd (zo k) ix).2.1 x, h.2) i = zce b bs cI cH ph h i := fun x i _ hi => zce_ext (fun j => by show zup h.1 (q + 1) _ x (i + 1) j = _; unfold zup; rw [if_neg (by omega)]) (fun _ => rfl) (Or.inl rfl)
      have own : ∀ (x : Int32) (kd : Nat), (zfd (zo k) ix).2.2 = kd → ¬ kd = 2 → ¬ kd = 3 → ∀ i, i < zNf (zfd (zo k) ix).1 → zfv b bs ph (zup h.1 (q + 1) (zfd (zo k) ix).2.1 x, h.2) (q + 1) (zfd (zo k) ix).1 i = if i = (zfd (zo k) ix).2.1 then .int x else zfv b bs ph h (q + 1) (zfd (zo k) ix).1 i := fun x kd hk n2 n3 i hi => by
        by_cases hij : i = (zfd (zo k) ix).2.1
        · rw [if_pos hij, hij]
          unfold zfv
          rw [f3, hk]
          split
          · exact absurd rfl n2
          · exact absurd rfl n3
          · show Value.int (zup h.1 _ _ x _ _) = _
            unfold zup
            rw [if_pos ⟨rfl, rfl⟩]
        · rw [if_neg hij]
          unfold zfv
          split
          · rfl
          · rfl
          · show Value.int (zup h.1 _ _ x _ _) = _
            unfold zup
            rw [if_neg (fun z => hij z.2)]
      split at hz
      · rename_i x hk
        cases hz
        obtain ⟨t1, t2⟩ := k0 hk
        exact put (.int x) ph _ t2 (znar (Or.inl ⟨t1, x, rfl⟩)) rfl (other x) (own x 0 hk (by decide) (by decide)) kk
      · rename_i x hk
        by_cases hx01 : x = 0 ∨ x = 1
        · rw [if_pos hx01] at hz
          cases hz
          obtain ⟨t1, t2⟩ := k1 hk
          exact put (.int x) ph _ t2 (znar (Or.inr (Or.inl ⟨t1, by rcases hx01 with rfl | rfl; exact Or.inl rfl; exact Or.inr rfl⟩))) rfl (other x) (own x 1 hk (by decide) (by decide)) kk
        · rw [if_neg hx01] at hz; cases hz
      · rename_i y hk
        by_cases hn : (zn k).name = "<init>" ∧ (zfd (zo k) ix).1 = zo k
        · rw [if_pos hn] at hz
          cases hz
          obtain ⟨t1, t2⟩ := k2 hk
          unfold u_lay at hlay
          rw [if_pos t2] at hlay
          have hn2 := znar (ty := zTy (zfd (zo k) ix).1 (zfd (zo k) ix).2.1) (v := .ref (bs + y)) (Or.inr (Or.inr ⟨t1, _, rfl⟩))
          have hcf : m.cls = cf := by
            obtain ⟨_, _, c', _, _, _, -, -, hf', -, -, -, hown2, -⟩ := Cond.laysFinal_spec hlay
            have e1 : c' = cf := by have := hif.symm.trans hf'; simp at this; exact this.1.symm
            rw [f4, hn.2] at hown2
            rw [← e1]; exact Option.some.inj (hown.symm.trans hown2)
          have h6 := u_fits hfc hkC hkind (Or.inr hlay) hif (g2 _ f2) hn2.1 hn2.2
          rcases f5 with f5 | ⟨f6, f5⟩
          · refine W.putFinK hx hb hown (hts _ f5) hfd hst hcf (hnm hn.1) (by rw [r3]; exact h6) r2 r4 (by rw [hsl]; exact k2_hasslot (r5 _ f2)) rfl rfl hd (fin (.ref (bs + y)) (ph.1, (q + 1, (zfd (zo k) ix).2.1, y + 1) :: ph.2) h rfl ?_ ?_ kk)
            · intro i _ hi
              refine zce_ext (fun _ => rfl) (fun j => ?_) (Or.inl rfl)
              show (if q + 1 = i + 1 ∧ _ = j then _ else _) = _
              rw [if_neg (by omega)]
            · intro i hi
              by_cases hij : i = (zfd (zo k) ix).2.1
              · rw [if_pos hij, hij]
                unfold zfv
                rw [f3, hk]
                show zcv b bs (zrv (if q + 1 = q + 1 ∧ (zfd (zo k) ix).2.1 = (zfd (zo k) ix).2.1 then y + 1 else _)) = _
                rw [if_pos ⟨rfl, rfl⟩]
                rfl
              · rw [if_neg hij]
                unfold zfv
                split
                · show zcv b bs (zrv (if q + 1 = q + 1 ∧ (zfd (zo k) ix).2.1 = i then y + 1 else _)) = _
                  rw [if_neg (fun z => hij z.2.symm)]
                · rfl
                · rfl
          · rw [hk] at f6; cases f6
        · rw [if_neg hn] at hz; cases hz
      · rename_i y hk
        cases hz
        obtain ⟨t1, t2, t3⟩ := k3 hk
        have hq6 : ∀ i, i < ph.1 → i ≠ q → (zSH.getD i (9, 0)).1 ≠ 6 := fun i hi hne z => by
          have e1 := zSH_six i (by omega) z
          have e2 := zSH_six q (by omega) (by rw [hsh, t3])
          omega
        refine put (.ref (bs + y)) ph (h.1, y + 1) t2 (znar (Or.inr (Or.inr ⟨t1, _, rfl⟩))) rfl (fun i hi hne => zce_ext (fun _ => rfl) (fun _ => rfl) (Or.inr (hq6 i hi hne))) (fun i hi => ?_) kk
        by_cases hij : i = (zfd (zo k) ix).2.1
        · rw [if_pos hij, hij]
          unfold zfv
          rw [f3, hk]
          rfl
        · rw [if_neg hij]
          unfold zfv
          split
          · rfl
          · rename_i hk3
            exact absurd (zkind3u _ f1 _ hi _ f2 hk3 (by rw [f3]; exact hk)) hij
          · rfl
      · cases hz
    · rw [if_neg hc] at hz; cases hz
  · cases hz
end zone
end
section
theorem zcl_t {cn a t : Nat} (ht : t ≠ 9) (h : (zcl cn a).1 = t) : ∃ q n, a = q + 1 ∧ q < cn ∧ zcl cn a = (t, n) ∧ zSH.getD q (9, 0) = (t, n) := by
  obtain ⟨q, h1, h2, h3⟩ := zcl_pos (cn := cn) (a := a) (by rw [h]; exact ht)
  cases hz : zcl cn a with
  | mk x y =>
    rw [hz] at h h3
    dsimp only at h
    subst h
    exact ⟨q, y, h1, h2, rfl, h3⟩
theorem zin_vp {x : Int32} {n : Nat} (h : zin x n = true) : vp_in x n := by
  unfold zin at h
  rw [Bool.and_eq_true] at h
  have h1 := of_decide_eq_true h.1
  have h2 := of_decide_eq_true h.2
  rintro (q | q)
  · exact h1 q
  · omega
theorem zSH_296 : ∀ i, i < 140 → (zSH.getD i (9, 0)).2 ≤ 296 := by decide +kernel
theorem zfk_lt : ∀ c, c < 5 → ∀ j, j < zNf c → zfk c j < 4 := by decide +kernel
theorem zlk_fresh : ∀ (w : List (Nat × Nat × Nat)) (n j : Nat), (w.all fun q => decide (q.1 ≤ n)) = true → zlk w (n + 1) j = 0 := by
  intro w
  induction w with
  | nil => intro n j _; rfl
  | cons q r ih =>
    intro n j h
    rw [List.all_cons, Bool.and_eq_true] at h
    have h1 := of_decide_eq_true h.1
    unfold zlk
    rw [if_neg (by omega)]
    exact ih n j h.2
section ztwo
variable {p : Program} {l : Launch} {e : Env} {R : Room} {s : State} {m : MethodId} {args : Array Value} {below : List Frame} {meth : Method} {c : Code} {H : Heap} {locs : List Loc} {cells slots : Nat} {Q : State → Prop}
variable {b bs : Nat} {cI cH : ClassId} {D : va_G} {X : zX} {k : zM} {pc pc' len : Nat} {ls ls' : zL} {st st' : List Value} {ph ph' : zP} {h h' : zH} {Ls : Array Slot}
theorem zk_ald {s' : zS} (F : zFx p s m args meth c b bs cI cH D X k) (S : zSt s b bs cI cH D (zml k) ph h ls H locs Ls) (hd : decode (zb k) pc = .ok (.iaload, len)) (hz : zxAld X len (pc, ls, st, ph, h) = some s') (kk : zKK p l e R s m args below meth c cells slots Q b bs cI cH D k ph s') : W p l e R s m args below meth c H locs cells slots Q (F0 m pc Ls (st.map (zcv b bs))) := by
  obtain ⟨hx, hb, hml, hown, hts, hnm, hK, hX, hbb, hbs⟩ := F
  obtain ⟨hP, hsz, h140, hS, hL⟩ := id S
  unfold zxAld at hz
  split at hz
  · rename_i pc1 ls1 x r p1 h1 heq
    cases heq
    by_cases hc : len = 1 ∧ zin x X.1 = true
    · rw [if_pos hc] at hz
      cases hz
      obtain ⟨rfl, h2⟩ := hc
      exact va_sld hx hb hX (Nat.lt_of_lt_of_le hbb hbs) (Nat.not_le.mpr hbb) hS (zin_vp h2) hd (zW0 (kk H locs Ls S))
    · rw [if_neg hc] at hz; cases hz
  · rename_i pc1 ls1 x a r p1 h1 heq
    cases heq
    by_cases hc : len = 1 ∧ (zcl ph.1 (a + 1)).1 = 0 ∧ zin x (zcl ph.1 (a + 1)).2 = true
    · rw [if_pos hc] at hz
      cases hz
      obtain ⟨rfl, h1, h2⟩ := hc
      obtain ⟨q, n, e1, e2, e3, e4⟩ := zcl_t (by decide) h1
      cases e1
      rw [e3] at h2
      have hw := zws_get (b := b) (bs := bs) (cI := cI) (cH := cH) (p := ph) (h := h) e2
      rw [zce_int e4] at hw
      exact va_iald hx hb hK hP _ 0 hw rfl (zin_vp h2) hd (zW0 (kk H locs Ls S))
    · rw [if_neg hc] at hz; cases hz
  · cases hz
theorem zk_ast {s' : zS} (F : zFx p s m args meth c b bs cI cH D X k) (S : zSt s b bs cI cH D (zml k) ph h ls H locs Ls) (hd : decode (zb k) pc = .ok (.iastore, len)) (hz : zxAst len (pc, ls, st, ph, h) = some s') (kk : zKK p l e R s m args below meth c cells slots Q b bs cI cH D k ph s') : W p l e R s m args below meth c H locs cells slots Q (F0 m pc Ls (st.map (zcv b bs))) := by
  obtain ⟨hx, hb, hml, hown, hts, hnm, hK, hX, hbb, hbs⟩ := F
  obtain ⟨hP, hsz, h140, hS, hL⟩ := id S
  unfold zxAst at hz
  split at hz
  · rename_i pc1 ls1 v x a r p1 h1 heq
    cases heq
    by_cases hc : len = 1 ∧ (zcl ph.1 a).1 = 0 ∧ zin x (zcl ph.1 a).2 = true
    · rw [if_pos hc] at hz
      cases hz
      obtain ⟨rfl, h1, h2⟩ := hc
      obtain ⟨q, n, rfl, e2, e3, e4⟩ := zcl_t (by decide) h1
      rw [e3] at h2
      have hw := zws_get (b := b) (bs := bs) (cI := cI) (cH := cH) (p := ph) (h := h) e2
      rw [zce_int e4] at hw
      refine W.iast hx hb (hP _ _ hw) ((hK.2 0 _ rfl).1 n (fun j => .int (h.1 (q + 1) j))) (fun z => by cases z) (by show ¬ (x < 0 ∨ (arrV _ _ _).slots.size ≤ _); rw [arrV_size]; exact zin_vp h2) rfl rfl hd fun H1 z1 z2 z3 => ?_
      have hat : va_at D zcls (bs + q, .inl (cI, n, .inl (fun j => zup h.1 (q + 1) x.toNatClampNeg v (q + 1) j))) H1 := by
        show H1[bs + q]? = some (vp_cell _ _)
        rw [z1]
        rw [vp_cell_i, vp_cell_i, arrV_store]
        congr 2
        funext j
        unfold updV zup
        by_cases hj : j = x.toNatClampNeg
        · rw [if_pos hj, if_pos ⟨rfl, hj⟩]
        · rw [if_neg hj, if_neg (fun z => hj z.2)]
      have hP1 := hP.set zws_D hw hat z3
      rw [zws_set (p := ph) (h := h) (p' := ph) (h' := (zup h.1 (q + 1) x.toNatClampNeg v, h.2)) e2 rfl (fun i hi hne => zce_ext (fun j => by show zup h.1 (q + 1) _ v (i + 1) j = _; unfold zup; rw [if_neg (by omega)]) (fun _ => rfl) (Or.inl rfl)) (zce_int e4)] at hP1
      exact zW0 (kk H1 _ Ls ⟨hP1, by rw [z2]; exact hsz, h140, hS.put z2 z3 (Nat.le_add_right _ _), hL⟩)
    · rw [if_neg hc] at hz; cases hz
  · cases hz
theorem zk_qld {s' : zS} (F : zFx p s m args meth c b bs cI cH D X k) (S : zSt s b bs cI cH D (zml k) ph h ls H locs Ls) (hd : decode (zb k) pc = .ok (.aaload, len)) (hz : zxQld len (pc, ls, st, ph, h) = some s') (kk : zKK p l e R s m args below meth c cells slots Q b bs cI cH D k ph s') : W p l e R s m args below meth c H locs cells slots Q (F0 m pc Ls (st.map (zcv b bs))) := by
  obtain ⟨hx, hb, hml, hown, hts, hnm, hK, hX, hbb, hbs⟩ := F
  obtain ⟨hP, hsz, h140, hS, hL⟩ := id S
  unfold zxQld at hz
  split at hz
  · rename_i pc1 ls1 x a r p1 h1 heq
    cases heq
    by_cases hc : len = 1 ∧ (zcl ph.1 a).1 = 1 ∧ zin x (zcl ph.1 a).2 = true
    · rw [if_pos hc] at hz
      cases hz
      obtain ⟨rfl, h1, h2⟩ := hc
      obtain ⟨q, n, rfl, e2, e3, e4⟩ := zcl_t (by decide) h1
      rw [e3] at h2
      have hw := zws_get (b := b) (bs := bs) (cI := cI) (cH := cH) (p := ph) (h := h) e2
      rw [zce_row e4] at hw
      refine va_aldq hx hb hK hP _ 1 hw rfl (zin_vp h2) hd ?_
      rw [zra_rf b]
      exact zW0 (kk H locs Ls S)
    · rw [if_neg hc] at hz; cases hz
  · cases hz
theorem zk_qst {s' : zS} (F : zFx p s m args meth c b bs cI cH D X k) (S : zSt s b bs cI cH D (zml k) ph h ls H locs Ls) (hd : decode (zb k) pc = .ok (.aastore, len)) (hz : zxQst len (pc, ls, st, ph, h) = some s') (kk : zKK p l e R s m args below meth c cells slots Q b bs cI cH D k ph s') : W p l e R s m args below meth c H locs cells slots Q (F0 m pc Ls (st.map (zcv b bs))) := by
  obtain ⟨hx, hb, hml, hown, hts, hnm, hK, hX, hbb, hbs⟩ := F
  obtain ⟨hP, hsz, h140, hS, hL⟩ := id S
  unfold zxQst at hz
  split at hz
  · rename_i pc1 ls1 v x a r p1 h1 heq
    cases heq
    by_cases hc : len = 1 ∧ (zcl ph.1 a).1 = 1 ∧ zin x (zcl ph.1 a).2 = true ∧ zcl ph.1 (v + 1) = (2, 9)
    · rw [if_pos hc] at hz
      cases hz
      obtain ⟨rfl, h1, h2, h3⟩ := hc
      obtain ⟨q, n, rfl, e2, e3, e4⟩ := zcl_t (by decide) h1
      obtain ⟨v', n', w1, w2, w3, w4⟩ := zcl_t (t := 2) (by decide) (by rw [h3])
      cases w1
      rw [e3] at h2
      have hw := zws_get (b := b) (bs := bs) (cI := cI) (cH := cH) (p := ph) (h := h) e2
      rw [zce_row e4] at hw
      have hv := zws_get (b := b) (bs := bs) (cI := cI) (cH := cH) (p := ph) (h := h) w2
      rw [zce_obj (c := 0) w4] at hv
      have h2 := zin_vp h2
      have hlt : x.toNatClampNeg < n := Nat.not_le.mp fun q => h2 (Or.inr q)
      have h0 : ¬ x < 0 := fun q => h2 (Or.inl q)
      obtain ⟨r', hr', cellV, g1, g2, g3, -⟩ := hP _ _ hv
      have hcls := (hK.1 0 _ rfl).2
      obtain ⟨kA, comp, k1, k2, k3, -⟩ := (hK.2 1 _ rfl).2
      have hcomp : comp = D.1 0 := Option.some.inj (k3.symm.trans hcls.1)
      subst hcomp
      obtain ⟨kC, hkC, -⟩ := hcls.2
      refine W.aast hx hb (hP _ _ hw) (fun q h => by cases h) (fun h => by cases h) k1 k2 rfl hkC ⟨h0, by show _ < (arrV _ _ _).slots.size; rw [arrV_size]; exact hlt⟩ g1 (fun q h => by rw [g3] at h; cases h) (by rw [g2]; exact hkC) (by rw [g2]; exact va_assign hcls) rfl rfl hd fun H1 z1 z2 z3 => ?_
      have hat : va_at D zcls (bs + q, .inl (cH, n, .inr (.inr (.inr (.inr (fun j => zra bs (zlk ((q + 1, x.toNatClampNeg, v + 1) :: ph.2) (q + 1) j))))))) H1 := by
        show H1[bs + q]? = some (vp_cell _ _)
        rw [z1]
        rw [vp_cell_q, vp_cell_q, arrV_store]
        congr 2
        funext j
        unfold updV
        show _ = va_rf (zra bs (if q + 1 = q + 1 ∧ x.toNatClampNeg = j then v + 1 else zlk ph.2 (q + 1) j))
        by_cases hj : j = x.toNatClampNeg
        · rw [if_pos hj, if_pos ⟨rfl, hj.symm⟩]
          rfl
        · rw [if_neg hj, if_neg (fun z => hj z.2.symm)]
      have hP1 := hP.set zws_D hw hat z3
      rw [zws_set (p := ph) (h := h) (p' := (ph.1, (q + 1, x.toNatClampNeg, v + 1) :: ph.2)) (h' := h) e2 rfl (fun i hi hne => zce_ext (fun _ => rfl) (fun j => by show (if q + 1 = i + 1 ∧ _ then _ else _) = _; rw [if_neg (by omega)]) (Or.inl rfl)) (zce_row e4)] at hP1
      exact zW0 (kk H1 _ Ls ⟨hP1, by rw [z2]; exact hsz, h140, hS.put z2 z3 (Nat.le_add_right _ _), hL⟩)
    · rw [if_neg hc] at hz; cases hz
  · cases hz
theorem zk_len {s' : zS} (F : zFx p s m args meth c b bs cI cH D X k) (S : zSt s b bs cI cH D (zml k) ph h ls H locs Ls) (hd : decode (zb k) pc = .ok (.arraylength, len)) (hz : zxLen X len (pc, ls, st, ph, h) = some s') (kk : zKK p l e R s m args below meth c cells slots Q b bs cI cH D k ph s') : W p l e R s m args below meth c H locs cells slots Q (F0 m pc Ls (st.map (zcv b bs))) := by
  obtain ⟨hx, hb, hml, hown, hts, hnm, hK, hX, hbb, hbs⟩ := F
  obtain ⟨hP, hsz, h140, hS, hL⟩ := id S
  unfold zxLen at hz
  split at hz
  · rename_i pc1 ls1 r p1 h1 heq
    cases heq
    by_cases hc : len = 1
    · rw [if_pos hc] at hz
      cases hz
      subst hc
      exact va_slen hx hb hX (Nat.lt_of_lt_of_le hbb hbs) (Nat.not_le.mpr hbb) hS hd (zW0 (kk H locs Ls S))
    · rw [if_neg hc] at hz; cases hz
  · rename_i pc1 ls1 a r p1 h1 heq
    cases heq
    by_cases hc : len = 1 ∧ ((zcl ph.1 (a + 1)).1 = 0 ∨ (zcl ph.1 (a + 1)).1 = 1)
    · rw [if_pos hc] at hz
      cases hz
      obtain ⟨rfl, h1 | h1⟩ := hc
      · obtain ⟨q, n, e1, e2, e3, e4⟩ := zcl_t (by decide) h1
        cases e1
        have hw := zws_get (b := b) (bs := bs) (cI := cI) (cH := cH) (p := ph) (h := h) e2
        rw [zce_int e4] at hw
        exact va_alen hx hb hK hP _ 0 hw rfl (by rw [e3]) hd (zW0 (kk H locs Ls S))
      · obtain ⟨q, n, e1, e2, e3, e4⟩ := zcl_t (by decide) h1
        cases e1
        have hw := zws_get (b := b) (bs := bs) (cI := cI) (cH := cH) (p := ph) (h := h) e2
        rw [zce_row e4] at hw
        exact va_alen hx hb hK hP _ 1 hw rfl (by rw [e3]) hd (zW0 (kk H locs Ls S))
    · rw [if_neg hc] at hz; cases hz
  · cases hz
/-- a new cell -/
theorem zpush {H1 : Heap} {e1 : va_E} {ph2 : zP} {h2 : zH} (S : zSt s b bs cI cH D (zml k) ph h ls H locs Ls) (hlt : ph.1 < 140) (e : ph2.1 = ph.1 + 1) (h0 : ∀ i, i < ph.1 → zce b bs cI cH ph2 h2 i = zce b bs cI cH ph h i) (hn : zce b bs cI cH ph2 h2 ph.1 = e1) (hat : va_at D zcls (bs + ph.1, e1) H1) (z : H1.size = H.size + 1) (o : ∀ q : Nat, q < H.size → H1[q]? = H[q]?) : zSt s b bs cI cH D (zml k) ph2 h2 ls H1 locs Ls := by
  obtain ⟨hP, hsz, h140, hS, hL⟩ := id S
  refine ⟨?_, by rw [z, hsz, e]; omega, by rw [e]; omega, ⟨by have := hS.1; omega, fun x h1 h2 => (o x (Nat.lt_of_lt_of_le h1 hS.1)).trans (hS.2.1 x h1 h2), hS.2.2⟩, hL⟩
  rw [← zws_push e h0 hn]
  refine (hP.kept (fun i x hx => o x.1 ((hP i x hx).lt))).app (fun i x hx => ?_)
  have hz : i < 1 := (List.getElem?_eq_some_iff.mp hx).1
  rw [show i = 0 by omega] at hx
  cases hx
  exact hat
theorem zfr_ext {ph : zP} (hf : zfrs ph = true) {i : Nat} (hi : i < ph.1) : zce b bs cI cH (ph.1 + 1, ph.2) (zclr h.1 (ph.1 + 1), h.2) i = zce b bs cI cH ph h i := zce_ext (fun j => by show zclr h.1 (ph.1 + 1) (i + 1) j = _; unfold zclr; rw [if_neg (by omega)]) (fun _ => rfl) (Or.inl rfl)
theorem zk_nwa {s' : zS} (F : zFx p s m args meth c b bs cI cH D X k) (S : zSt s b bs cI cH D (zml k) ph h ls H locs Ls) (hd : decode (zb k) pc = .ok (.newarray .int, len)) (hz : zxNwa len (pc, ls, st, ph, h) = some s') (hcl : cells + (s'.2.2.2.1.1 - ph.1) ≤ R.cells) (hsl : slots + (zsl s'.2.2.2.1.1 - zsl ph.1) ≤ R.slots) (kk : zKK p l e R s m args below meth c cells slots Q b bs cI cH D k ph s') : W p l e R s m args below meth c H locs cells slots Q (F0 m pc Ls (st.map (zcv b bs))) := by
  obtain ⟨hx, hb, hml, hown, hts, hnm, hK, hX, hbb, hbs⟩ := F
  obtain ⟨hP, hsz, h140, hS, hL⟩ := id S
  unfold zxNwa at hz
  split at hz
  · rename_i pc1 ls1 n r p1 h1 heq
    cases heq
    by_cases hc : len = 2 ∧ ¬ n < 0 ∧ zSH.getD ph.1 (9, 0) = (0, n.toNatClampNeg) ∧ ph.1 < 140 ∧ zfrs ph = true
    · rw [if_pos hc] at hz
      cases hz
      obtain ⟨rfl, hn, hsh, hlt, hf⟩ := hc
      dsimp only at hcl hsl
      have e1 : ph.1 + 1 - ph.1 = 1 := by omega
      have e2 : zsl (ph.1 + 1) - zsl ph.1 = n.toNatClampNeg := by rw [zsl_succ _ hlt, hsh]; omega
      rw [e1] at hcl
      rw [e2] at hsl
      have hbig := zSH_296 _ hlt
      rw [hsh] at hbig
      have hbig2 : n.toNatClampNeg ≤ 296 := hbig
      refine va_newaK (atype := .int) hx hb (hts _ zarri) rfl hd rfl hn rfl (by show n.toNatClampNeg * 4 ≤ _; omega) hcl hsl hsz fun H1 cA z1 z2 z3 _ z5 => ?_
      have hcA : cA = cI := Option.some.inj (z5.symm.trans (hK.2 0 _ rfl).2)
      subst hcA
      have S2 : zSt s b bs cA cH D (zml k) (ph.1 + 1, ph.2) (zclr h.1 (ph.1 + 1), h.2) ls H1 locs Ls := zpush S hlt rfl (fun i hi => zfr_ext hf hi) (zce_int (p := (ph.1 + 1, ph.2)) hsh) (by
        show H1[bs + ph.1]? = some (vp_cell _ _)
        rw [z1, vp_cell_i]
        congr 2
        funext j
        show defaultValue .int = Value.int (zclr h.1 (ph.1 + 1) (ph.1 + 1) j)
        unfold zclr
        rw [if_pos rfl]
        try rfl) (by rw [z2, hsz]) (fun q hq => z3 q (by rw [← hsz]; exact hq))
      have := kk H1 locs Ls S2
      dsimp only at this
      rw [e1, e2] at this
      exact this
    · rw [if_neg hc] at hz; cases hz
  · cases hz
theorem zk_nwq {ix : Nat} {s' : zS} (F : zFx p s m args meth c b bs cI cH D X k) (S : zSt s b bs cI cH D (zml k) ph h ls H locs Ls) (hd : decode (zb k) pc = .ok (.anewarray ix, len)) (hz : zxNwq k ix len (pc, ls, st, ph, h) = some s') (hcl : cells + (s'.2.2.2.1.1 - ph.1) ≤ R.cells) (hsl : slots + (zsl s'.2.2.2.1.1 - zsl ph.1) ≤ R.slots) (kk : zKK p l e R s m args below meth c cells slots Q b bs cI cH D k ph s') : W p l e R s m args below meth c H locs cells slots Q (F0 m pc Ls (st.map (zcv b bs))) := by
  obtain ⟨hx, hb, hml, hown, hts, hnm, hK, hX, hbb, hbs⟩ := F
  obtain ⟨hP, hsz, h140, hS, hL⟩ := id S
  unfold zxNwq at hz
  split at hz
  · rename_i pc1 ls1 n r p1 h1 heq
    cases heq
    by_cases hc : len = 3 ∧ ¬ n < 0 ∧ zco0 zknT (zo k) ix = some 0 ∧ zSH.getD ph.1 (9, 0) = (1, n.toNatClampNeg) ∧ ph.1 < 140 ∧ zfrs ph = true
    · rw [if_pos hc] at hz
      cases hz
      obtain ⟨rfl, hn, hkn, hsh, hlt, hf⟩ := hc
      dsimp only at hcl hsl
      have e1 : ph.1 + 1 - ph.1 = 1 := by omega
      have e2 : zsl (ph.1 + 1) - zsl ph.1 = n.toNatClampNeg := by rw [zsl_succ _ hlt, hsh]; omega
      rw [e1] at hcl
      rw [e2] at hsl
      have hbig := zSH_296 _ hlt
      rw [hsh] at hbig
      have hbig2 : n.toNatClampNeg ≤ 296 := hbig
      refine W.anew hx hb hown (hts _ (zkn_ok _ (zco_in _ _ _ _ hkn))) (hts _ zarrh) rfl hd rfl hn (by omega) hcl hsl fun cA kA comp f1 f2 f3 f4 => ?_
      obtain ⟨kA2, comp2, y1, y2, y3, y4⟩ := (hK.2 1 _ rfl).2
      have hcA : cA = cH := Option.some.inj (f1.symm.trans y4)
      subst hcA
      have hfr : ∀ j, zlk ph.2 (ph.1 + 1) j = 0 := fun j => zlk_fresh _ _ _ hf
      generalize hH1 : H.push ({ cls := cA, slots := Array.replicate n.toNatClampNeg .null, vm := .none } : Cell) = H1
      have z1 : H1.size = H.size + 1 := by rw [← hH1, Array.size_push]
      have z2 : H1[H.size]? = some (arrV cA n.toNatClampNeg (fun _ => .null)) := by rw [← hH1, Array.getElem?_push_size, ← arrV_new]
      have z3 : ∀ q : Nat, q < H.size → H1[q]? = H[q]? := fun q hq => by rw [← hH1, Array.getElem?_push, if_neg (Nat.ne_of_lt hq)]
      have S2 : zSt s b bs cI cA D (zml k) (ph.1 + 1, ph.2) (zclr h.1 (ph.1 + 1), h.2) ls H1 locs Ls := zpush S hlt rfl (fun i hi => zfr_ext hf hi) (zce_row (p := (ph.1 + 1, ph.2)) hsh) (by
        show H1[bs + ph.1]? = some (vp_cell _ _)
        rw [← hsz, z2, vp_cell_q]
        congr 2
        funext j
        show Value.null = va_rf (zra bs (zlk ph.2 (ph.1 + 1) j))
        rw [hfr]
        rfl) z1 z3
      have := kk H1 locs Ls S2
      dsimp only at this
      rw [e1, e2] at this
      rw [hsz]
      exact this
    · rw [if_neg hc] at hz; cases hz
  · cases hz
theorem zk_new {ix : Nat} {s' : zS} (F : zFx p s m args meth c b bs cI cH D X k) (S : zSt s b bs cI cH D (zml k) ph h ls H locs Ls) (hd : decode (zb k) pc = .ok (.new ix, len)) (hz : zxNew k ix len (pc, ls, st, ph, h) = some s') (hcl : cells + (s'.2.2.2.1.1 - ph.1) ≤ R.cells) (hsl : slots + (zsl s'.2.2.2.1.1 - zsl ph.1) ≤ R.slots) (kk : zKK p l e R s m args below meth c cells slots Q b bs cI cH D k ph s') : W p l e R s m args below meth c H locs cells slots Q (F0 m pc Ls (st.map (zcv b bs))) := by
  obtain ⟨hx, hb, hml, hown, hts, hnm, hK, hX, hbb, hbs⟩ := F
  obtain ⟨hP, hsz, h140, hS, hL⟩ := id S
  unfold zxNew at hz
  dsimp only at hz
  cases hkn : zco0 zknT (zo k) ix with
  | none => rw [hkn] at hz; cases hz
  | some cc =>
    rw [hkn] at hz
    dsimp only at hz
    by_cases hc : len = 3 ∧ zSH.getD ph.1 (9, 0) = (2 + cc, zNf cc) ∧ cc < 5 ∧ ph.1 < 140 ∧ zfrs ph = true ∧ h.2 = 0
    · rw [if_pos hc] at hz
      cases hz
      obtain ⟨rfl, hsh, hc5, hlt, hf, hk0⟩ := hc
      dsimp only at hcl hsl
      have e1 : ph.1 + 1 - ph.1 = 1 := by omega
      have e2 : zsl (ph.1 + 1) - zsl ph.1 = zNf cc := by rw [zsl_succ _ hlt, hsh]; omega
      rw [e1] at hcl
      rw [e2] at hsl
      obtain ⟨g1, g2, g3, g4, g5, g6⟩ := zcP_ok _ hc5
      have hKn := hK.1 _ _ g6
      have hfr : ∀ j, zlk ph.2 (ph.1 + 1) j = 0 := fun j => zlk_fresh _ _ _ hf
      refine W.newcK hx hb hown (hts _ (zkn_ok _ (zco_in _ _ _ _ hkn))) (hts _ g4) (hts _ g5) rfl hd hcl hsl hKn.2.1 hsz fun H1 kC hkC z1 z2 z3 => ?_
      have S2 : zSt s b bs cI cH D (zml k) (ph.1 + 1, ph.2) (zclr h.1 (ph.1 + 1), h.2) ls H1 locs Ls := zpush S hlt rfl (fun i hi => zfr_ext hf hi) (zce_obj (p := (ph.1 + 1, ph.2)) hsh) (by
        refine ⟨_, g6, (u_born (zTy cc) hts g1 hKn hkC z1 g2).to fun j hj => ?_⟩
        unfold vp_V
        rw [List.getD_eq_getElem?_getD, zfs_get hj]
        show defaultValue (zTy cc j) = zfv b bs (ph.1 + 1, ph.2) (zclr h.1 (ph.1 + 1), h.2) (ph.1 + 1) cc j
        have hz0 : zclr h.1 (ph.1 + 1) (ph.1 + 1) j = 0 := by unfold zclr; rw [if_pos rfl]; try rfl
        have h4 := zfk_lt cc hc5 j hj
        have q0 := zkind0 cc hc5 j hj
        have q1 := zkind1 cc hc5 j hj
        have q2 := zkind2 cc hc5 j hj
        have q3 := zkind3 cc hc5 j hj
        have hr : zisr (zTy cc j) = true → defaultValue (zTy cc j) = .null := fun z => by
          cases hty : zTy cc j <;> rw [hty] at z <;> first | rfl | cases z
        unfold zfv
        rcases (show zfk cc j = 0 ∨ zfk cc j = 1 ∨ zfk cc j = 2 ∨ zfk cc j = 3 by omega) with z | z | z | z
        · rw [z, (q0 z).1]
          show _ = Value.int (zclr h.1 (ph.1 + 1) (ph.1 + 1) j)
          rw [hz0]
          rfl
        · rw [z, (q1 z).1]
          show _ = Value.int (zclr h.1 (ph.1 + 1) (ph.1 + 1) j)
          rw [hz0]
          rfl
        · rw [z, hr (q2 z).1]
          show Value.null = zcv b bs (zrv (zlk ph.2 (ph.1 + 1) j))
          rw [hfr]
          rfl
        · rw [z, hr (q3 z).1]
          show Value.null = zcv b bs (zrv h.2)
          rw [hk0]
          rfl) (by rw [z2, hsz]) (fun q hq => z3 q (by rw [← hsz]; exact hq))
      have := kk H1 locs Ls S2
      dsimp only at this
      rw [e1, e2] at this
      exact this
    · rw [if_neg hc] at hz; cases hz
end ztwo
end
section
theorem zcat_map (b bs : Nat) (r : List Value) : ((r.map (zcv b bs)).map fun v => v.category).sum = zcat r := by
  unfold zcat
  rw [List.map_map]
  congr 2
  funext v
  exact zcv_cat b bs v
theorem zty_cv (b bs : Nat) (v : Value) : zty (zcv b bs v) = zty v := by cases v <;> rfl
theorem zcst_cv {o n : Nat} {i : Instr} {v : Value} (b bs : Nat) (h : zcst o i = some (v, n)) : zcv b bs v = v := by
  cases i with
  | iconst q => cases h; rfl
  | bipush q => cases h; rfl
  | sipush q => cases h; rfl
  | lconst q => cases h; rfl
  | ldc_w ix =>
    unfold zcst at h
    dsimp only at h
    cases hz : zco0 zcoT o ix with
    | none => rw [hz] at h; cases h
    | some x => rw [hz] at h; cases h; rfl
  | ldc2_w ix =>
    unfold zcst at h
    dsimp only at h
    cases hz : zco0 zclT o ix with
    | none => rw [hz] at h; cases h
    | some x => rw [hz] at h; cases h; rfl
  | _ => cases h
section zsimo
variable {p : Program} {l : Launch} {e : Env} {R : Room} {s : State} {m : MethodId} {args : Array Value} {below : List Frame} {meth : Method} {c : Code} {H : Heap} {locs : List Loc} {cells slots : Nat} {Q : State → Prop}
variable {b bs : Nat} {cI cH : ClassId} {D : va_G} {X : zX} {k : zM} {pc pc' len : Nat} {ls ls' : zL} {st st' : List Value} {ph ph' : zP} {h h' : zH} {Ls : Array Slot}
set_option maxHeartbeats 4000000 in
theorem zsim_ok {i : Instr} {s' : zS} (F : zFx p s m args meth c b bs cI cH D X k) (S : zSt s b bs cI cH D (zml k) ph h ls H locs Ls) (hd : decode (zb k) pc = .ok (i, len)) (hz : zsim X k i len (pc, ls, st, ph, h) = some s') (hcl : cells + (s'.2.2.2.1.1 - ph.1) ≤ R.cells) (hsl : slots + (zsl s'.2.2.2.1.1 - zsl ph.1) ≤ R.slots) (hfr : 1 ≤ R.frames) (hlo : 30 ≤ R.locals) (kk : zKK p l e R s m args below meth c cells slots Q b bs cI cH D k ph s') : W p l e R s m args below meth c H locs cells slots Q (F0 m pc Ls (st.map (zcv b bs))) := by
  obtain ⟨hx, hb, hml, hown, hts, hnm, hK, hX, hbb, hbs⟩ := id F
  obtain ⟨hP, hsz, h140, hS, hL⟩ := id S
  unfold zsim at hz
  cases hc : zcst (zo k) i with
  | some vn =>
    obtain ⟨v, n⟩ := vn
    rw [hc] at hz
    dsimp only [zxCst] at hz
    by_cases hn : len = n
    · rw [if_pos hn] at hz
      cases hz
      subst hn
      have k1 := zW0 (kk H locs Ls S)
      dsimp only [List.map] at k1
      rw [zcst_cv b bs hc] at k1
      exact zsd_cst hx hb hown hts hc hd k1
    · rw [if_neg hn] at hz; cases hz
  | none =>
  rw [hc] at hz
  dsimp only at hz
  cases hc2 : zldx i with
  | some jj =>
    obtain ⟨j, ty, n⟩ := jj
    rw [hc2] at hz
    dsimp only [zxLd] at hz
    split at hz
    · rename_i v hv
      by_cases hn : len = n ∧ zty v = ty
      · rw [if_pos hn] at hz
        cases hz
        obtain ⟨rfl, hty⟩ := hn
        exact zsd_ld hx hb hc2 hd (hL.2.2.2 _ _ hv) (by rw [zty_cv]; exact hty) (zW0 (kk H locs Ls S))
      · rw [if_neg hn] at hz; cases hz
    · cases hz
  | none =>
  rw [hc2] at hz
  dsimp only at hz
  cases hc3 : zstx i with
  | some jj =>
    obtain ⟨j, ty, n⟩ := jj
    rw [hc3] at hz
    dsimp only at hz
    unfold zxSt at hz
    split at hz
    · rename_i pc1 ls1 v r p1 h1 heq
      cases heq
      by_cases hn : len = n ∧ zty v = ty
      · rw [if_pos hn] at hz
        obtain ⟨rfl, hty⟩ := hn
        by_cases h2 : ty = 2
        · rw [if_pos h2] at hz
          by_cases hj : j + 1 < ls.length
          · rw [if_pos hj] at hz
            cases hz
            refine zsd_st2 hx hb hc3 hd h2 hL.has (by rw [← hL.2.1]; exact hj) (by rw [zty_cv]; exact hty) fun Ls' z => ?_
            exact zW0 (kk H locs Ls' ⟨hP, hsz, h140, hS, hL.put2 z hj⟩)
          · rw [if_neg hj] at hz; cases hz
        · rw [if_neg h2] at hz
          by_cases hj : j < ls.length
          · rw [if_pos hj] at hz
            cases hz
            refine zsd_st1 hx hb hc3 hd h2 hL.has (by rw [← hL.2.1]; exact hj) (by rw [zty_cv]; exact hty) fun Ls' z => ?_
            exact zW0 (kk H locs Ls' ⟨hP, hsz, h140, hS, hL.put1 z hj⟩)
          · rw [if_neg hj] at hz; cases hz
      · rw [if_neg hn] at hz; cases hz
    · cases hz
  | none =>
  rw [hc3] at hz
  dsimp only at hz
  have def_ : zxAr i len (pc, ls, st, ph, h) = some s' → W p l e R s m args below meth c H locs cells slots Q (F0 m pc Ls (st.map (zcv b bs))) := fun hz => by
    unfold zxAr at hz
    split at hz
    · rename_i pc1 ls1 y x r p1 h1 heq
      cases heq
      cases ha : zar i x y with
      | none => rw [ha] at hz; cases hz
      | some v =>
        rw [ha] at hz
        dsimp only at hz
        by_cases hn : len = 1
        · rw [if_pos hn] at hz
          cases hz
          subst hn
          exact zsd_ar hx hb ha hd (zW0 (kk H locs Ls S))
        · rw [if_neg hn] at hz; cases hz
    · rename_i pc1 ls1 y x r p1 h1 heq
      cases heq
      cases ha : zal i x y with
      | none => rw [ha] at hz; cases hz
      | some v =>
        rw [ha] at hz
        dsimp only at hz
        by_cases hn : len = 1
        · rw [if_pos hn] at hz
          cases hz
          subst hn
          exact zsd_al hx hb ha hd (zW0 (kk H locs Ls S))
        · rw [if_neg hn] at hz; cases hz
    · cases hz
  cases i with
  | getfield ix => exact zk_get F S hd hz kk
  | putfield ix => exact zk_put F S hd hz kk
  | iaload => exact zk_ald F S hd hz kk
  | iastore => exact zk_ast F S hd hz kk
  | aaload => exact zk_qld F S hd hz kk
  | aastore => exact zk_qst F S hd hz kk
  | arraylength => exact zk_len F S hd hz kk
  | new ix => exact zk_new F S hd hz hcl hsl kk
  | newarray t => cases t with
    | int => exact zk_nwa F S hd hz hcl hsl kk
    | _ => exact def_ hz
  | anewarray ix => exact zk_nwq F S hd hz hcl hsl kk
  | dup =>
    dsimp only at hz
    unfold zxDup at hz
    split at hz
    · rename_i pc1 ls1 v r p1 h1 heq
      cases heq
      by_cases hn : len = 1 ∧ v.category = 1
      · rw [if_pos hn] at hz
        cases hz
        obtain ⟨rfl, hv⟩ := hn
        exact lv_dup hx hb hd (by rw [zcv_cat]; exact hv) (zW0 (kk H locs Ls S))
      · rw [if_neg hn] at hz; cases hz
    · cases hz
  | dup2 =>
    dsimp only at hz
    unfold zxDup2 at hz
    split at hz
    · rename_i pc1 ls1 v u r p1 h1 heq
      cases heq
      by_cases hn : len = 1 ∧ v.category = 1 ∧ u.category = 1
      · rw [if_pos hn] at hz
        cases hz
        obtain ⟨rfl, hv, hu⟩ := hn
        exact lv_dup2_11 hx hb hd (by rw [zcv_cat]; exact hv) (by rw [zcv_cat]; exact hu) (zW0 (kk H locs Ls S))
      · rw [if_neg hn] at hz; cases hz
    · cases hz
  | pop =>
    dsimp only at hz
    unfold zxPop at hz
    split at hz
    · rename_i pc1 ls1 v r p1 h1 heq
      cases heq
      by_cases hn : len = 1 ∧ v.category = 1
      · rw [if_pos hn] at hz
        cases hz
        obtain ⟨rfl, hv⟩ := hn
        exact lv_pop hx hb hd (by rw [zcv_cat]; exact hv) (zW0 (kk H locs Ls S))
      · rw [if_neg hn] at hz; cases hz
    · cases hz
  | aconst_null =>
    dsimp only at hz
    by_cases hn : len = 1
    · rw [if_pos hn] at hz
      cases hz
      subst hn
      exact lv_null hx hb hd (zW0 (kk H locs Ls S))
    · rw [if_neg hn] at hz; cases hz
  | ineg =>
    dsimp only at hz
    unfold zxNeg at hz
    split at hz
    · rename_i pc1 ls1 x r p1 h1 heq
      cases heq
      by_cases hn : len = 1
      · rw [if_pos hn] at hz
        cases hz
        subst hn
        exact lv_ineg hx hb hd (zW0 (kk H locs Ls S))
      · rw [if_neg hn] at hz; cases hz
    · cases hz
  | i2l =>
    dsimp only at hz
    unfold zxI2l at hz
    split at hz
    · rename_i pc1 ls1 x r p1 h1 heq
      cases heq
      by_cases hn : len = 1
      · rw [if_pos hn] at hz
        cases hz
        subst hn
        exact lv_i2l hx hb hd rfl (zW0 (kk H locs Ls S))
      · rw [if_neg hn] at hz; cases hz
    · cases hz
  | lcmp =>
    dsimp only at hz
    unfold zxLcmp at hz
    split at hz
    · rename_i pc1 ls1 y x r p1 h1 heq
      cases heq
      by_cases hn : len = 1
      · rw [if_pos hn] at hz
        cases hz
        subst hn
        exact W.lcmp hx hb hd (zW0 (kk H locs Ls S))
      · rw [if_neg hn] at hz; cases hz
    · cases hz
  | iinc j n =>
    dsimp only [zxInc] at hz
    split at hz
    · rename_i x hv
      by_cases hn : len = 3
      · rw [if_pos hn] at hz
        cases hz
        subst hn
        obtain ⟨q, hq⟩ := List.getElem?_of_mem (zlv_mem (b := b) (bs := bs) hv)
        have hj : j < ls.length := (List.getElem?_eq_some_iff.mp hv).1
        refine lv_iinc hx hb hd hL.has (k := q) hq rfl (by rw [← hL.2.1]; exact hj) rfl fun Ls' z => ?_
        exact zW0 (kk H locs Ls' ⟨hP, hsz, h140, hS, hL.put1 z hj⟩)
      · rw [if_neg hn] at hz; cases hz
    · cases hz
  | goto o =>
    dsimp only at hz
    by_cases hn : len = 3
    · rw [if_pos hn] at hz
      obtain ⟨t, h1, rfl⟩ := zgo_inv hz
      subst hn
      exact lv_goto hx hb hd (ztg_eq h1) (zW0 (kk H locs Ls S))
    · rw [if_neg hn] at hz; cases hz
  | ifnull o =>
    dsimp only at hz
    unfold zxNull at hz
    split at hz
    · rename_i pc1 ls1 x r p1 h1 heq
      cases heq
      by_cases hn : len = 3
      · rw [if_pos hn] at hz
        cases hz
        subst hn
        exact lv_ifnull hx hb hd (zW0 (kk H locs Ls S))
      · rw [if_neg hn] at hz; cases hz
    · rename_i pc1 ls1 r p1 h1 heq
      cases heq
      by_cases hn : len = 3
      · rw [if_pos hn] at hz
        obtain ⟨t, h1, rfl⟩ := zgo_inv hz
        subst hn
        exact lv_ifnullN hx hb hd (ztg_eq h1) (zW0 (kk H locs Ls S))
      · rw [if_neg hn] at hz; cases hz
    · cases hz
  | ifnonnull o =>
    dsimp only at hz
    unfold zxNnull at hz
    split at hz
    · rename_i pc1 ls1 x r p1 h1 heq
      cases heq
      by_cases hn : len = 3
      · rw [if_pos hn] at hz
        obtain ⟨t, h1, rfl⟩ := zgo_inv hz
        subst hn
        exact lv_ifnonnull hx hb hd (ztg_eq h1) (zW0 (kk H locs Ls S))
      · rw [if_neg hn] at hz; cases hz
    · rename_i pc1 ls1 r p1 h1 heq
      cases heq
      by_cases hn : len = 3
      · rw [if_pos hn] at hz
        cases hz
        subst hn
        exact lv_ifnonnullN hx hb hd (zW0 (kk H locs Ls S))
      · rw [if_neg hn] at hz; cases hz
    · cases hz
  | ifCond cd o =>
    dsimp only at hz
    unfold zxIf at hz
    split at hz
    · rename_i pc1 ls1 x r p1 h1 heq
      cases heq
      by_cases hn : len = 3
      · rw [if_pos hn] at hz
        cases ht : ztg pc o with
        | none => rw [ht] at hz; cases hz
        | some t =>
          rw [ht] at hz
          cases hz
          subst hn
          exact zsd_if hx hb hd (ztg_eq ht) (zW0 (kk H locs Ls S))
      · rw [if_neg hn] at hz; cases hz
    · cases hz
  | if_icmp cd o =>
    dsimp only at hz
    unfold zxIc at hz
    split at hz
    · rename_i pc1 ls1 y x r p1 h1 heq
      cases heq
      by_cases hn : len = 3
      · rw [if_pos hn] at hz
        cases ht : ztg pc o with
        | none => rw [ht] at hz; cases hz
        | some t =>
          rw [ht] at hz
          cases hz
          subst hn
          exact zsd_ic hx hb hd (ztg_eq ht) (zW0 (kk H locs Ls S))
      · rw [if_neg hn] at hz; cases hz
    · cases hz
  | tableswitch d lo hi offs =>
    dsimp only at hz
    unfold zxTsw at hz
    split at hz
    · rename_i pc1 ls1 x r p1 h1 heq
      cases heq
      obtain ⟨t, h1, rfl⟩ := zgo_inv hz
      unfold zsw at h1
      by_cases hr : x.toInt < lo ∨ hi < x.toInt
      · rw [if_pos hr] at h1
        exact lv_tableOut hx hb hd hr (ztg_eq h1) (zW0 (kk H locs Ls S))
      · rw [if_neg hr] at h1
        cases ho : offs[(x.toInt - lo).toNat]? with
        | none => rw [ho] at h1; cases h1
        | some o =>
          rw [ho] at h1
          exact lv_tableIn hx hb hd (fun z => hr (Or.inl z)) (fun z => hr (Or.inr z)) ho (ztg_eq h1) (zW0 (kk H locs Ls S))
    · cases hz
  | lookupswitch d ps =>
    dsimp only at hz
    unfold zxLsw at hz
    split at hz
    · rename_i pc1 ls1 x r p1 h1 heq
      cases heq
      obtain ⟨t, h1, rfl⟩ := zgo_inv hz
      unfold zlw at h1
      by_cases hr : (ps.toList.zip (ps.toList.drop 1)).all (fun (a, next) => a.1 < next.1) = true
      · rw [if_pos hr] at h1
        exact lv_lookup hx hb hd hr rfl (ztg_eq h1) (zW0 (kk H locs Ls S))
      · rw [if_neg hr] at h1; cases h1
    · cases hz
  | invokespecial ix =>
    dsimp only at hz
    unfold zxObj at hz
    split at hz
    · rename_i pc1 ls1 x r p1 h1 heq
      cases heq
      by_cases hn : len = 3 ∧ zco0 zbiT (zo k) ix = some 1 ∧ zcat r = 0 ∧ ls.length = zml k
      · rw [if_pos hn] at hz
        cases hz
        obtain ⟨rfl, hi, hcat, hll⟩ := hn
        have hw : Jvm.Cond.methodLink (zcn (zo k)) ix Lib.objectInit ∈ zTs := zbi_ok _ (zco_in _ _ _ _ hi)
        refine W.objInit hx hb hown (hts _ hw) (hts _ zobj1) (hts _ zobj2) rfl (by rw [hml]; exact hL.1) rfl hd hfr ?_ (zW0 (kk H locs Ls S))
        show 2 * 0 + ((r.map (zcv b bs)).map fun v => v.category).sum + 12 ≤ _
        rw [zcat_map, hcat]
        omega
      · rw [if_neg hn] at hz; cases hz
    · cases hz
  | invokestatic ix =>
    dsimp only at hz
    unfold zxMath at hz
    split at hz
    · rename_i pc1 ls1 y r p1 h1 heq
      cases heq
      split at hz
      · rename_i hi
        split at hz
        · rename_i x r'
          by_cases hn : len = 3 ∧ zcat r' ≤ 8
          · rw [if_pos hn] at hz
            cases hz
            obtain ⟨rfl, hcat⟩ := hn
            have hw : Jvm.Cond.methodLink (zcn (zo k)) ix Lib.Math.min.name ∈ zTs := zbi_ok _ (zco_in _ _ _ _ hi)
            dsimp only at hcl hsl
            refine va_mmin hx hb (by rw [hml]; exact hL.1.symm) hown (hts _ hw) (hts _ zmin1) (hts _ zmath) (hts _ zmin2) hfr ?_ (by omega) (by omega) hd (zW0 (kk H locs Ls S))
            rw [zcat_map]
            omega
          · rw [if_neg hn] at hz; cases hz
        · cases hz
      · rename_i hi
        by_cases hn : len = 3 ∧ zcat r ≤ 8
        · rw [if_pos hn] at hz
          cases hz
          obtain ⟨rfl, hcat⟩ := hn
          have hw : Jvm.Cond.methodLink (zcn (zo k)) ix Lib.Math.abs.name ∈ zTs := zbi_ok _ (zco_in _ _ _ _ hi)
          dsimp only at hcl hsl
          refine va_mabs hx hb (by rw [hml]; exact hL.1.symm) hown (hts _ hw) (hts _ zabs1) (hts _ zmath) (hts _ zabs2) hfr ?_ (by omega) (by omega) hd (zW0 (kk H locs Ls S))
          rw [zcat_map]
          omega
        · rw [if_neg hn] at hz; cases hz
      · cases hz
    · cases hz
  | _ => exact def_ hz
end zsimo
end
section
theorem zsl_step (n : Nat) : zsl n ≤ zsl (n + 1) := by
  by_cases h : n < 140
  · rw [zsl_succ n h]; omega
  · have hl : zSH.length = 140 := by decide +kernel
    unfold zsl
    rw [List.take_of_length_le (by omega), List.take_of_length_le (by omega)]
    exact Nat.le_refl _
theorem zsl_mono {a d : Nat} (h : a ≤ d) : zsl a ≤ zsl d := by
  induction d with
  | zero => rw [Nat.le_zero.mp h]; exact Nat.le_refl _
  | succ d ih =>
    rcases Nat.lt_or_ge d a with q | q
    · rw [show a = d + 1 by omega]; exact Nat.le_refl _
    · exact Nat.le_trans (ih q) (zsl_step d)
theorem zrtn_eq {k : zM} {i : Instr} {len : Nat} {s : zS} {x : zR} (h : zrtn k i len s = some x) : x.2 = s.2.2.2 := by
  obtain ⟨pc, ls, st, ph, hh⟩ := s
  unfold zrtn at h
  dsimp only at h
  by_cases hl : len = 1
  · rw [if_pos hl] at h
    split at h
    · cases h; rfl
    · split at h
      · cases h; rfl
      · cases h
    · cases h; rfl
    · cases h; rfl
    · cases h; rfl
    · cases h
  · rw [if_neg hl] at h; cases h
theorem zst_grow {X : zX} {r : Nat} {k : zM} {C : zM → List Value → zP → zH → Option zR} {s s' : zS} (h : zst X r k C s = some (.inl s')) : s.2.2.2.1.1 ≤ s'.2.2.2.1.1 := by
  unfold zst at h
  cases hd : decode (zb k) s.1 with
  | error e => rw [hd] at h; cases h
  | ok q =>
    obtain ⟨i, len⟩ := q
    rw [hd] at h
    dsimp only at h
    cases hz : zsim X k i len s with
    | some s2 =>
      rw [hz] at h
      dsimp only at h
      by_cases hl : s.2.2.2.1.1 ≤ s2.2.2.2.1.1
      · rw [if_pos hl] at h; cases h; exact hl
      · rw [if_neg hl] at h; cases h
    | none =>
      rw [hz] at h
      dsimp only at h
      cases hr : zrtn k i len s with
      | some x => rw [hr] at h; cases h
      | none =>
        rw [hr] at h
        dsimp only at h
        cases hi : zinv k i len s with
        | none => rw [hi] at h; cases h
        | some z =>
          obtain ⟨m, as, rest, t⟩ := z
          rw [hi] at h
          dsimp only at h
          by_cases hk : zrk m as < r
          · rw [if_pos hk] at h
            cases hc : C m as s.2.2.2.1 s.2.2.2.2 with
            | none => rw [hc] at h; cases h
            | some y =>
              obtain ⟨v, p', h'⟩ := y
              rw [hc] at h
              dsimp only at h
              by_cases hl : s.2.2.2.1.1 ≤ p'.1 ∧ (t = true ∨ p' = s.2.2.2.1)
              · rw [if_pos hl] at h; cases h; exact hl.1
              · rw [if_neg hl] at h; cases h
          · rw [if_neg hk] at h; cases h
theorem zst_inr {X : zX} {r : Nat} {k : zM} {C : zM → List Value → zP → zH → Option zR} {s : zS} {x : zR} (h : zst X r k C s = some (.inr x)) : ∃ i len, decode (zb k) s.1 = .ok (i, len) ∧ zrtn k i len s = some x := by
  unfold zst at h
  cases hd : decode (zb k) s.1 with
  | error e => rw [hd] at h; cases h
  | ok q =>
    obtain ⟨i, len⟩ := q
    rw [hd] at h
    dsimp only at h
    cases hz : zsim X k i len s with
    | some s2 =>
      rw [hz] at h
      dsimp only at h
      by_cases hl : s.2.2.2.1.1 ≤ s2.2.2.2.1.1
      · rw [if_pos hl] at h; cases h
      · rw [if_neg hl] at h; cases h
    | none =>
      rw [hz] at h
      dsimp only at h
      cases hr : zrtn k i len s with
      | some x2 => rw [hr] at h; cases h; exact ⟨i, len, rfl, hr⟩
      | none =>
        rw [hr] at h
        dsimp only at h
        cases hi : zinv k i len s with
        | none => rw [hi] at h; cases h
        | some z =>
          obtain ⟨m, as, rest, t⟩ := z
          rw [hi] at h
          dsimp only at h
          by_cases hk : zrk m as < r
          · rw [if_pos hk] at h
            cases hc : C m as s.2.2.2.1 s.2.2.2.2 with
            | none => rw [hc] at h; cases h
            | some y =>
              obtain ⟨v, p', h'⟩ := y
              rw [hc] at h
              dsimp only at h
              by_cases hl : s.2.2.2.1.1 ≤ p'.1 ∧ (t = true ∨ p' = s.2.2.2.1)
              · rw [if_pos hl] at h; cases h
              · rw [if_neg hl] at h; cases h
          · rw [if_neg hk] at h; cases h
theorem zst_inl {X : zX} {r : Nat} {k : zM} {C : zM → List Value → zP → zH → Option zR} {s s' : zS} (h : zst X r k C s = some (.inl s')) : ∃ i len, decode (zb k) s.1 = .ok (i, len) ∧ (zsim X k i len s = some s' ∨ ∃ m as rest t v p' h', zinv k i len s = some (m, as, rest, t) ∧ zrk m as < r ∧ C m as s.2.2.2.1 s.2.2.2.2 = some (v, p', h') ∧ s.2.2.2.1.1 ≤ p'.1 ∧ s' = (s.1 + 3, s.2.1, v.toList ++ rest, p', h')) := by
  unfold zst at h
  cases hd : decode (zb k) s.1 with
  | error e => rw [hd] at h; cases h
  | ok q =>
    obtain ⟨i, len⟩ := q
    refine ⟨i, len, rfl, ?_⟩
    rw [hd] at h
    dsimp only at h
    cases hz : zsim X k i len s with
    | some s2 =>
      rw [hz] at h
      dsimp only at h
      by_cases hl : s.2.2.2.1.1 ≤ s2.2.2.2.1.1
      · rw [if_pos hl] at h; cases h; exact Or.inl rfl
      · rw [if_neg hl] at h; cases h
    | none =>
      rw [hz] at h
      dsimp only at h
      cases hr : zrtn k i len s with
      | some x2 => rw [hr] at h; cases h
      | none =>
        rw [hr] at h
        dsimp only at h
        cases hi : zinv k i len s with
        | none => rw [hi] at h; cases h
        | some z =>
          obtain ⟨m, as, rest, t⟩ := z
          rw [hi] at h
          dsimp only at h
          by_cases hk : zrk m as < r
          · rw [if_pos hk] at h
            cases hc : C m as s.2.2.2.1 s.2.2.2.2 with
            | none => rw [hc] at h; cases h
            | some y =>
              obtain ⟨v, p', h'⟩ := y
              rw [hc] at h
              dsimp only at h
              by_cases hl : s.2.2.2.1.1 ≤ p'.1 ∧ (t = true ∨ p' = s.2.2.2.1)
              · rw [if_pos hl] at h; cases h; exact Or.inr ⟨m, as, rest, t, v, p', h', rfl, hk, hc, hl.1, rfl⟩
              · rw [if_neg hl] at h; cases h
          · rw [if_neg hk] at h; cases h
theorem zex_grow {X : zX} {r : Nat} {k : zM} {C : zM → List Value → zP → zH → Option zR} {x : zR} : ∀ (n : Nat) (s : zS), zex X r k C n s = some x → s.2.2.2.1.1 ≤ x.2.1.1 := by
  intro n
  induction n with
  | zero => intro s h; cases h
  | succ n ih =>
    intro s h
    unfold zex at h
    cases hs : zst X r k C s with
    | none => rw [hs] at h; cases h
    | some y =>
      rw [hs] at h
      cases y with
      | inl s' => exact Nat.le_trans (zst_grow hs) (ih s' h)
      | inr z =>
        cases h
        obtain ⟨i, len, h1, h2⟩ := zst_inr hs
        rw [zrtn_eq h2]
        exact Nat.le_refl _
def zwd (k : zM) : List Jvm.Cond := Jvm.Cond.code (zn k) (zb k) (zml k) (zrt k) :: zgw
def zrm (r cn sn : Nat) : Jvm.Room := { frames := r + 1, cells := cn, slots := sn, locals := 40 * r + 40 }
def zNW (U : State) : Prop := ∀ w ∈ zTs, znst w = true → w.before #[] U = true
theorem zNW.warm {s U : State} (hW : s.WarmedH U.vm) (h : zNW s) : zNW U := by
  intro w hw hn
  have h1 := h w hw hn
  cases w with
  | fieldLinkNest a i x n d o => exact va_Nw.warmF hW h1
  | methodLinkNest a i x o => exact va_Nw.warmM hW h1
  | arrayOver t => cases t with
    | object C => exact va_AO.use (va_AO.moved hW.alike (va_AO.of h1))
    | _ => cases hn
  | _ => cases hn
theorem zNW.same {s U : State} (hv : U.vm = s.vm) (h : zNW s) : zNW U := by
  intro w hw hn
  have h1 := h w hw hn
  cases w with
  | fieldLinkNest a i x n d o => exact va_Nw.same rfl hv.symm h1
  | methodLinkNest a i x o => exact va_Nw.same rfl hv.symm h1
  | arrayOver t => cases t with
    | object C => exact va_AO.use (va_AO.moved (by rw [hv]; exact Vm.Alike.refl s.vm) (va_AO.of h1))
    | _ => cases hn
  | _ => cases hn
theorem zNW.use {U : State} {A : Array Value} (h : zNW U) {w : Jvm.Cond} (hw : w ∈ zTs) (hn : znst w = true) : w.before A U = true := by
  have h1 := h w hw hn
  cases w with
  | fieldLinkNest a i x n d o => exact va_Nw.use rfl h1
  | methodLinkNest a i x o => exact va_Nw.use rfl h1
  | arrayOver t => cases t with
    | object C => exact va_AO.use (va_AO.of h1)
    | _ => cases hn
  | _ => cases hn
def zG (b bs : Nat) (cI cH : ClassId) (D : va_G) (X : zX) (ph : zP) (h : zH) (U : State) : Prop := va_P D zcls (zws b bs cI cH ph h) U.heap ∧ U.heap.size = bs + ph.1 ∧ ph.1 ≤ 140 ∧ va_K D zcls [(cI, .int), (cH, .object "SeenFromBehind$Hill")] U ∧ va_X b X.1 X.2 U U.heap ∧ b < bs ∧ zNW U
def zQc (b bs : Nat) (cI cH : ClassId) (D : va_G) (X : zX) (x : zR) : Array Value → State → Outcome → State → Prop := fun _ st o t => o = .returned (x.1.map (zcv b bs)) ∧ zG b bs cI cH D X x.2.1 x.2.2 t ∧ va_F (fun q => bs ≤ q) st t
def zMet (b bs : Nat) (cI cH : ClassId) (D : va_G) (X : zX) (l : Launch) (m : zM) (as : List Value) (ph : zP) (h : zH) (x : zR) : Prop := Met l (zn m) (zwd m) (zrm (zrk m as) (x.2.1.1 - ph.1) (zsl x.2.1.1 - zsl ph.1)) (va_Pc (as.map (zcv b bs)) (zG b bs cI cH D X ph h)) (zQc b bs cI cH D X x) (x.2.1.1 - ph.1) (zsl x.2.1.1 - zsl ph.1) (fun q => bs ≤ q)
section zcall
variable {p : Program} {l : Launch} {e : Env} {R : Room} {s : State} {m : MethodId} {args : Array Value} {below : List Frame} {meth : Method} {c : Code} {H : Heap} {locs : List Loc} {cells slots : Nat} {Q : State → Prop}
variable {b bs : Nat} {cI cH : ClassId} {D : va_G} {X : zX} {k : zM} {pc pc' len : Nat} {ls ls' : zL} {st st' : List Value} {ph ph' : zP} {h h' : zH} {Ls : Array Slot}
theorem zG.blind {ph : zP} {h : zH} {av : List Value} : FrameBlind (va_Pc av (zG b bs cI cH D X ph h)) := by
  rintro a U g mk ⟨q0, q1, q2, q3, q4, q5, q6, q7⟩
  exact ⟨q0, q1, q2, q3, va_K.moved (u := U) (U := U.calling g mk a) (Vm.Alike.refl U.vm) q4, va_X.moved (u := U) (U := U.calling g mk a) (Vm.Alike.refl U.vm) q5, q6, zNW.same (s := U) (U := U.calling g mk a) rfl q7⟩
theorem zrun_go {mc ms : Nat} {st0 rest0 : List Value} {a : Array Value} {x : zR} (hr : va_Run p l e R s m args below meth c H locs cells slots mc ms (F0 m pc Ls st0) rest0 (zQc b bs cI cH D X x a) (fun q => bs ≤ q)) (hS : va_S (fun q => bs ≤ q) s.heap H locs)
    (kk : ∀ (H1 : Heap) (locs1 : List Loc), va_P D zcls (zws b bs cI cH x.2.1 x.2.2) H1 → H1.size = bs + x.2.1.1 → x.2.1.1 ≤ 140 → va_S (fun q => bs ≤ q) s.heap H1 locs1 → W p l e R s m args below meth c H1 locs1 (cells + mc) (slots + ms) Q (F0 m (pc + 3) Ls ((x.1.map (zcv b bs)).toList ++ rest0))) : W p l e R s m args below meth c H locs cells slots Q (F0 m pc Ls st0) := by
  intro T hT XX
  obtain ⟨v, st₀, t, T', L, h0, X', hL, e1, e2, ⟨hv, ⟨g1, g2, g3, g4⟩, hz, hk⟩, st⟩ := hr T hT XX
  have hv := Option.some.inj (congrArg some (Outcome.returned.inj hv))
  subst hv
  rw [h0] at hz hk
  obtain ⟨t2, a1, b1⟩ := kk T'.heap (locs ++ L) (by rw [e1]; exact g1) (by rw [e1]; exact g2) g3 ⟨Nat.le_trans hS.1 (by rw [e1]; exact hz), fun q h1 h2 => by rw [e1, hk q (Nat.lt_of_lt_of_le h1 hS.1) h2]; exact hS.2.1 q h1 h2, fun q hq => by
      rcases List.mem_append.mp hq with h | h
      · exact hS.2.2 q h
      · exact hL q h⟩ T' rfl X'
  exact ⟨t2, st t2 a1, b1⟩
end zcall
end
section
theorem zgoodIn {m : zM} (h : zmP m) : GoodIn zTs (zwd m) := by
  intro w hw
  rcases List.mem_cons.mp hw with rfl | hw
  · exact ⟨h.1, Or.inl rfl⟩
  · exact zgood hw
section zrun
variable {p : Program} {l : Launch} {e : Env} {R : Room} {s : State} {m : MethodId} {args : Array Value} {below : List Frame} {meth : Method} {c : Code} {H : Heap} {locs : List Loc} {cells slots : Nat} {Q : State → Prop}
variable {b bs : Nat} {cI cH : ClassId} {D : va_G} {X : zX} {k : zM} {pc pc' len : Nat} {ls ls' : zL} {st st' : List Value} {ph ph' : zP} {h h' : zH} {Ls : Array Slot}
theorem zG_at (F : zFx p s m args meth c b bs cI cH D X k) (S : zSt s b bs cI cH D (zml k) ph h ls H locs Ls) (hNW : zNW s) {U : State} (hU : U.heap = H) (hW : s.WarmedH U.vm) : zG b bs cI cH D X ph h U := by
  obtain ⟨hx, hb, hml, hown, hts, hnm, hK, hX, hbb, hbs⟩ := F
  obtain ⟨hP, hsz, h140, hS, hL⟩ := S
  refine ⟨by rw [hU]; exact hP, by rw [hU]; exact hsz, h140, va_K.moved hW.alike hK, ?_, hbb, hNW.warm hW⟩
  rw [hU]
  exact va_X.moved hW.alike (hX.kept (hS.2.1 b (Nat.lt_of_lt_of_le hbb hbs) (Nat.not_le.mpr hbb)))
set_option maxHeartbeats 1000000 in
theorem zinv_ok {i : Instr} {mm : zM} {as rest : List Value} {t : Bool} {x : zR} (F : zFx p s m args meth c b bs cI cH D X k) (S : zSt s b bs cI cH D (zml k) ph h ls H locs Ls) (hNW : zNW s) (hd : decode (zb k) pc = .ok (i, len)) (hi : zinv k i len (pc, ls, st, ph, h) = some (mm, as, rest, t)) (hM : zmP mm → zMet b bs cI cH D X l mm as ph h x) (hfr : zrk mm as + 2 ≤ R.frames) (hlo : 40 * zrk mm as + 80 ≤ R.locals) (hcl : cells + (x.2.1.1 - ph.1) ≤ R.cells) (hsl : slots + (zsl x.2.1.1 - zsl ph.1) ≤ R.slots)
    (kk : ∀ (H1 : Heap) (locs1 : List Loc), va_P D zcls (zws b bs cI cH x.2.1 x.2.2) H1 → H1.size = bs + x.2.1.1 → x.2.1.1 ≤ 140 → va_S (fun q => bs ≤ q) s.heap H1 locs1 → W p l e R s m args below meth c H1 locs1 (cells + (x.2.1.1 - ph.1)) (slots + (zsl x.2.1.1 - zsl ph.1)) Q (F0 m (pc + 3) Ls ((x.1.map (zcv b bs)).toList ++ rest.map (zcv b bs)))) : W p l e R s m args below meth c H locs cells slots Q (F0 m pc Ls (st.map (zcv b bs))) := by
  have hG : ∀ {U : State}, U.heap = H → s.WarmedH U.vm → zG b bs cI cH D X ph h U := fun hU hW => zG_at F S hNW hU hW
  obtain ⟨hx, hb, hml, hown, hts, hnm, hK, hX, hbb, hbs⟩ := id F
  obtain ⟨hP, hsz, h140, hS, hL⟩ := id S
  have wd : ∀ {w : Jvm.Cond}, w ∈ zTs → w.before args s = true := fun hw => hts _ hw
  have hroom : ∀ (np : Nat), 2 * (F0 m pc Ls (st.map (zcv b bs))).monitorRoom + ((rest.map (zcv b bs)).map fun v => v.category).sum = zcat rest := fun np => by
    rw [zcat_map]
    show 2 * 0 + zcat rest = zcat rest
    omega
  have cb : ∀ (hp : zmP mm), (zrm (zrk mm as) (x.2.1.1 - ph.1) (zsl x.2.1.1 - zsl ph.1)).frames + 1 ≤ R.frames ∧ 8 + (zml mm + 11) + (zrm (zrk mm as) (x.2.1.1 - ph.1) (zsl x.2.1.1 - zsl ph.1)).locals ≤ R.locals ∧ (∀ w ∈ zwd mm, ∀ (a' : Array Value) (U : State), s.WarmedH U.vm → w.before a' U = true) := fun hp => ⟨by show zrk mm as + 1 + 1 ≤ _; omega, by have := hp.2.2.2.2.2; show 8 + (zml mm + 11) + (40 * zrk mm as + 40) ≤ _; omega, pay_in hts (zgoodIn hp)⟩
  have hlen : ∀ (hp : zmP mm) (sig), parseMethodDescriptor (zn mm).desc = some sig → znp mm = sig.parameters.length := fun hp sig hsig => by
    have h2 := hp.2.1.2.2
    rw [hsig] at h2
    exact (Option.some.inj h2).symm
  unfold zinv at hi
  dsimp only at hi
  by_cases hl3 : len = 3
  · rw [if_pos hl3] at hi
    subst hl3
    cases i with
    | invokevirtual ix =>
      dsimp only at hi
      cases hz : zco0 zmtT (zo k) ix with
      | none => rw [hz] at hi; cases hi
      | some z =>
        obtain ⟨kd, m2⟩ := z
        rw [hz] at hi
        dsimp only at hi
        by_cases hc : kd ≤ 1 ∧ znp m2 ≤ st.length
        · rw [if_pos hc] at hi
          split at hi
          · rename_i a r hdr
            by_cases hc2 : zcl ph.1 a = (2 + zo m2, zNf (zo m2)) ∧ zcat r ≤ 8
            · rw [if_pos hc2] at hi
              cases hi
              obtain ⟨hmP, hmK⟩ := zmt_ok _ (zco_in _ _ _ _ hz)
              dsimp only at hmP hmK
              have hz5 : zo mm < 5 := by
                rcases (show kd = 0 ∨ kd = 1 by omega) with z | z
                · subst z; exact hmK.2.2.2
                · subst z; exact hmK.2.2.2
              obtain ⟨q, rfl, hq, hsh⟩ := zcl_pos (cn := ph.1) (a := a) (by rw [hc2.1]; intro z; have : 2 + zo mm = 9 := z; omega)
              rw [hc2.1] at hsh
              obtain ⟨g1, g2, g3, g4, g5, g6⟩ := zcP_ok _ hz5
              have hw := zws_get (b := b) (bs := bs) (cI := cI) (cH := cH) (p := ph) (h := h) hq
              rw [zce_obj hsh] at hw
              have hstk : st.map (zcv b bs) = ((st.take (znp mm)).reverse.map (zcv b bs)).reverse ++ (.ref (bs + q) :: rest.map (zcv b bs)) := by
                rw [List.map_reverse, List.reverse_reverse]
                have : st = st.take (znp mm) ++ (.ref (q + 1) :: rest) := by rw [← hdr, List.take_append_drop]
                conv => lhs; rw [this]
                rw [List.map_append]
                rfl
              have hnl : ((st.take (znp mm)).reverse.map (zcv b bs)).length = znp mm := by
                rw [List.length_map, List.length_reverse, List.length_take]
                omega
              obtain ⟨cb1, cb2, cb3⟩ := cb hmP
              have hpre : PreV s H (zcn (zo mm)) (bs + q) (va_Pc ((Value.ref (q + 1) :: (st.take (znp mm)).reverse).map (zcv b bs)) (zG b bs cI cH D X ph h)) ((st.take (znp mm)).reverse.map (zcv b bs)) := ⟨zG.blind, va_recv hK hP g6 hw, fun U hU hW => ⟨rfl, hG hU hW⟩⟩
              have hfix : CallFix p m c (zb k) (zml k) s args zTs (zcn (zo k)) := ⟨hx, hb, hml, hown, hts⟩
              rcases (show kd = 0 ∨ kd = 1 by omega) with z | z
              · subst z
                exact zrun_go (va_runV (C := zcn (zo mm)) (bytes := zb mm) (maxL := zml mm) (ret := zrt mm) (n := znp mm) (rest := rest.map (zcv b bs)) hfix (hM hmP) ⟨⟨rfl, rfl, cb1, cb2, cb3, List.mem_cons_self, wd hmP.1, wd hmP.2.2.2.2.1, ⟨hmP.2.1.1, hmP.2.1.2.1⟩, hlen hmP, wd hmK.1⟩, wd hmK.2.1, wd hmK.2.2.1⟩ hpre rfl hnl hL.1 hstk (by rw [hroom 0]; exact hc2.2) hd ⟨hcl, hsl⟩) hS kk
              · subst z
                exact zrun_go (va_runVN (C := zcn (zo mm)) (host := "SeenFromBehind") (bytes := zb mm) (maxL := zml mm) (ret := zrt mm) (n := znp mm) (rest := rest.map (zcv b bs)) hfix (hM hmP) ⟨⟨⟨rfl, rfl, cb1, cb2, cb3, List.mem_cons_self⟩, wd hmP.1, wd hmP.2.2.2.2.1, ⟨hmP.2.1.1, hmP.2.1.2.1⟩, hlen hmP, wd hmK.1⟩, wd hmK.2.1, wd hmK.2.2.1⟩ hpre rfl hnl hL.1 hstk (by rw [hroom 0]; exact hc2.2) hd ⟨hcl, hsl⟩) hS kk
            · rw [if_neg hc2] at hi; cases hi
          · cases hi
        · rw [if_neg hc] at hi; cases hi
    | invokespecial ix =>
      dsimp only at hi
      cases hz : zco0 zmtT (zo k) ix with
      | none => rw [hz] at hi; cases hi
      | some z =>
        obtain ⟨kd, m2⟩ := z
        rw [hz] at hi
        dsimp only at hi
        by_cases hc : (kd = 4 ∨ kd = 5) ∧ znp m2 ≤ st.length
        · rw [if_pos hc] at hi
          split at hi
          · rename_i a r hdr
            by_cases hc2 : zcat r ≤ 8
            · rw [if_pos hc2] at hi
              cases hi
              obtain ⟨hmP, hmK⟩ := zmt_ok _ (zco_in _ _ _ _ hz)
              dsimp only at hmP hmK
              have hstk : st.map (zcv b bs) = ((st.take (znp mm)).reverse.map (zcv b bs)).reverse ++ (.ref (zad b bs a) :: rest.map (zcv b bs)) := by
                rw [List.map_reverse, List.reverse_reverse]
                have : st = st.take (znp mm) ++ (.ref a :: rest) := by rw [← hdr, List.take_append_drop]
                conv => lhs; rw [this]
                rw [List.map_append]
                rfl
              have hnl : ((st.take (znp mm)).reverse.map (zcv b bs)).length = znp mm := by
                rw [List.length_map, List.length_reverse, List.length_take]
                omega
              obtain ⟨cb1, cb2, cb3⟩ := cb hmP
              have hpre : PreS s H (va_Pc ((Value.ref a :: (st.take (znp mm)).reverse).map (zcv b bs)) (zG b bs cI cH D X ph h)) (Value.ref (zad b bs a) :: (st.take (znp mm)).reverse.map (zcv b bs)) := ⟨zG.blind, fun U hU hW => ⟨rfl, hG hU hW⟩⟩
              have hfix : CallFix p m c (zb k) (zml k) s args zTs (zcn (zo k)) := ⟨hx, hb, hml, hown, hts⟩
              rcases hc.1 with z | z
              · subst z
                have hcd := hmP.1
                have hcd2 : Jvm.Cond.code (zn mm) (zb mm) (zml mm) (zrt mm) ∈ zwd mm := List.mem_cons_self
                rw [hmK.2.2.2] at hcd hcd2
                exact zrun_go (va_runI (bytes := zb mm) (maxL := zml mm) (n := znp mm) (rest := rest.map (zcv b bs)) hfix (hM hmP) ⟨⟨rfl, rfl, cb1, cb2, cb3, hcd2, wd hcd, wd hmP.2.2.2.2.1, ⟨hmP.2.1.1, hmP.2.1.2.1⟩, hlen hmP, wd hmK.1⟩, hmK.2.2.1, wd hmK.2.1⟩ hpre rfl hnl hL.1 hstk (by rw [hroom 0]; exact hc2) hd ⟨hcl, hsl⟩) hS kk
              · subst z
                have hcd := hmP.1
                have hcd2 : Jvm.Cond.code (zn mm) (zb mm) (zml mm) (zrt mm) ∈ zwd mm := List.mem_cons_self
                rw [hmK.2.2.2] at hcd hcd2
                exact zrun_go (va_runIN (host := "SeenFromBehind") (bytes := zb mm) (maxL := zml mm) (n := znp mm) (rest := rest.map (zcv b bs)) hfix (hM hmP) ⟨⟨⟨rfl, rfl, cb1, cb2, cb3, hcd2⟩, wd hcd, wd hmP.2.2.2.2.1, ⟨hmP.2.1.1, hmP.2.1.2.1⟩, hlen hmP, wd hmK.1⟩, hmK.2.2.1, wd hmK.2.1⟩ hpre rfl hnl hL.1 hstk (by rw [hroom 0]; exact hc2) hd ⟨hcl, hsl⟩) hS kk
            · rw [if_neg hc2] at hi; cases hi
          · cases hi
        · rw [if_neg hc] at hi; cases hi
    | invokestatic ix =>
      dsimp only at hi
      cases hz : zco0 zmtT (zo k) ix with
      | none => rw [hz] at hi; cases hi
      | some z =>
        obtain ⟨kd, m2⟩ := z
        rw [hz] at hi
        dsimp only at hi
        by_cases hc : (kd = 2 ∨ kd = 3) ∧ znp m2 ≤ st.length ∧ zcat (st.drop (znp m2)) ≤ 8
        · rw [if_pos hc] at hi
          cases hi
          obtain ⟨hmP, hmK⟩ := zmt_ok _ (zco_in _ _ _ _ hz)
          dsimp only at hmP hmK
          have hstk : st.map (zcv b bs) = ((st.take (znp mm)).reverse.map (zcv b bs)).reverse ++ (st.drop (znp mm)).map (zcv b bs) := by
            rw [List.map_reverse, List.reverse_reverse, ← List.map_append, List.take_append_drop]
          have hnl : ((st.take (znp mm)).reverse.map (zcv b bs)).length = znp mm := by
            rw [List.length_map, List.length_reverse, List.length_take]
            omega
          obtain ⟨cb1, cb2, cb3⟩ := cb hmP
          have hpre : PreS s H (va_Pc ((st.take (znp mm)).reverse.map (zcv b bs)) (zG b bs cI cH D X ph h)) ((st.take (znp mm)).reverse.map (zcv b bs)) := ⟨zG.blind, fun U hU hW => ⟨rfl, hG hU hW⟩⟩
          have hfix : CallFix p m c (zb k) (zml k) s args zTs (zcn (zo k)) := ⟨hx, hb, hml, hown, hts⟩
          rcases hc.1 with z | z
          · subst z
            exact zrun_go (va_runS (bytes := zb mm) (maxL := zml mm) (ret := zrt mm) (n := znp mm) (rest := (st.drop (znp mm)).map (zcv b bs)) hfix (hM hmP) ⟨⟨rfl, rfl, cb1, cb2, cb3, List.mem_cons_self, wd hmP.1, wd hmP.2.2.2.2.1, ⟨hmP.2.1.1, hmP.2.1.2.1⟩, hlen hmP, wd hmK.1⟩, wd hmK.2⟩ hpre rfl hnl hL.1 hstk (by rw [hroom 0]; exact hc.2.2) hd ⟨hcl, hsl⟩) hS kk
          · subst z
            exact zrun_go (va_runSN (host := "SeenFromBehind") (bytes := zb mm) (maxL := zml mm) (ret := zrt mm) (n := znp mm) (rest := (st.drop (znp mm)).map (zcv b bs)) hfix (hM hmP) ⟨⟨⟨rfl, rfl, cb1, cb2, cb3, List.mem_cons_self⟩, wd hmP.1, wd hmP.2.2.2.2.1, ⟨hmP.2.1.1, hmP.2.1.2.1⟩, hlen hmP, wd hmK.1⟩, wd hmK.2, trivial⟩ hpre rfl hnl hL.1 hstk (by rw [hroom 0]; exact hc.2.2) hd ⟨hcl, hsl⟩) hS kk
        · rw [if_neg hc] at hi; cases hi
    | _ => cases hi
  · rw [if_neg hl3] at hi; cases hi
/-- a run of the evaluator is a run of the machine -/
theorem zex_ok {r : Nat} {C : zM → List Value → zP → zH → Option zR} {x : zR} {CF SF : Nat} (hC : ∀ m as p h x, zrk m as < r → zmP m → C m as p h = some x → zMet b bs cI cH D X l m as p h x) (F : zFx p s m args meth c b bs cI cH D X k) (hNW : zNW s) (hfr : r + 1 ≤ R.frames) (hlo : 40 * r + 40 ≤ R.locals) (hCF : CF ≤ R.cells) (hSF : SF ≤ R.slots)
    (hret : ∀ pc ls st H locs Ls i len, decode (zb k) pc = .ok (i, len) → zrtn k i len (pc, ls, st, x.2.1, x.2.2) = some x → zSt s b bs cI cH D (zml k) x.2.1 x.2.2 ls H locs Ls → W p l e R s m args below meth c H locs CF SF Q (F0 m pc Ls (st.map (zcv b bs)))) :
    ∀ (n : Nat) (s' : zS), zex X r k C n s' = some x → ∀ H locs Ls cells slots, zSt s b bs cI cH D (zml k) s'.2.2.2.1 s'.2.2.2.2 s'.2.1 H locs Ls → cells + (x.2.1.1 - s'.2.2.2.1.1) = CF → slots + (zsl x.2.1.1 - zsl s'.2.2.2.1.1) = SF → W p l e R s m args below meth c H locs cells slots Q (F0 m s'.1 Ls (s'.2.2.1.map (zcv b bs))) := by
  intro n
  induction n with
  | zero => intro s' hz; cases hz
  | succ n ih =>
    intro s' hz H locs Ls cells slots S hc hs
    have hg := zex_grow _ _ hz
    unfold zex at hz
    cases hst : zst X r k C s' with
    | none => rw [hst] at hz; cases hz
    | some y =>
      rw [hst] at hz
      cases y with
      | inr z =>
        cases hz
        obtain ⟨i, len, h1, h2⟩ := zst_inr hst
        have he := zrtn_eq h2
        obtain ⟨pc, ls, st, ph, hh⟩ := s'
        have e1 : x.2.1 = ph := congrArg (fun q => q.1) he
        have e2 : x.2.2 = hh := congrArg (fun q => q.2) he
        subst e1; subst e2
        dsimp only at hc hs
        rw [Nat.sub_self, Nat.add_zero] at hc hs
        subst hc; subst hs
        exact hret _ _ _ _ _ _ _ _ h1 h2 S
      | inl s2 =>
        dsimp only at hz
        have hg2 := zex_grow _ _ hz
        have hg1 := zst_grow hst
        have hm1 := zsl_mono hg1
        have hm2 := zsl_mono hg2
        obtain ⟨i, len, h1, h2⟩ := zst_inl hst
        obtain ⟨pc, ls, st, ph, hh⟩ := s'
        dsimp only at hc hs hg1 hm1 S
        rcases h2 with h2 | ⟨m2, as, rest, t, v, p', h', h2, h3, h4, h5, h6⟩
        · refine zsim_ok F S h1 h2 (by omega) (by omega) (by omega) (by omega) fun H' locs' Ls' S' => ?_
          exact ih s2 hz H' locs' Ls' _ _ S' (by show cells + (s2.2.2.2.1.1 - ph.1) + _ = CF; omega) (by show slots + (zsl s2.2.2.2.1.1 - zsl ph.1) + _ = SF; omega)
        · subst h6
          dsimp only at hg2 hm2 hg1 hm1 h4
          refine zinv_ok (x := (v, p', h')) F S hNW h1 h2 (fun hp => hC _ _ _ _ _ h3 hp h4) (by omega) (by omega) (by dsimp only; omega) (by dsimp only; omega) fun H1 locs1 w1 w2 w3 w4 => ?_
          have := ih _ hz H1 locs1 Ls (cells + (p'.1 - ph.1)) (slots + (zsl p'.1 - zsl ph.1)) ⟨w1, w2, w3, w4, S.2.2.2.2⟩ (by dsimp only; omega) (by dsimp only; omega)
          dsimp only at this
          rw [List.map_append] at this
          cases v <;> exact this
end zrun
end
section
-- ===== end of PART A; then your names; then what follows =====
/-! THE CLAIM OUT OF ONE WALK OF THE LAW'S BODY. Your part is whole_start (and what it stands on); all else here is the same for every law, but numbers. -/
def R_law : String := "SeenFromBehindLaw"
def lw_P (b : Addr) (xs : List Int32) (args : Array Value) (s : State) : Prop := args = #[.ref b] ∧ s.IntsAt b xs ∧ xs.length ≤ 3072 ∧ (Jvm.Cond.and given_1 narrow_1).before args s = true
def lw_Q (_ : Array Value) (s : State) (o : Outcome) (t : State) : Prop := o = .returned (some (.int 1)) ∧ Framed s o t [] 600000 7302249
def lw_Z (below : List Frame) (a : Array Value) (s : State) : State → Prop := fun t => ∃ o, t.status = .running ∧ Ended t below o ∧ lw_Q a s o t
/-- the law's own end, with 1 on the stack, nothing written that was there before, its room as the claim has it -/
theorem lw_ret {p : Program} {l : Launch} {e : Env} {s : State} {m : MethodId} {below : List Frame} {meth : Method} {c : Code} {b : Nat} (hx : p.tables.exec = Jvm.exec) (hb : c.code = code) (hr : meth.sig.returnType = ret) (hlocks : meth.locks = false) {pc : Nat} {H : Heap} {ls : Array Slot} (hdg : decode code pc = .ok (.ireturn, 1)) : W p l e room_1 s m #[Value.ref b] below meth c H [] 600000 7302249 (lw_Z below #[Value.ref b] s) (F0 m pc ls [.int 1]) := by
  intro T hT X
  obtain ⟨fs, hret, hrun, hended, hW, hframe⟩ := X.leave (v := some (.int 1)) (hlocks := hlocks) (fun h => by rw [hr] at h; cases h)
  have hmeth' : T.vm.method? m = some meth := X.method'
  refine ⟨T.setFrames fs, ?_, .returned (some (.int 1)), hrun, hended, rfl, ⟨_, rfl⟩, hW, hframe⟩
  jvm_step X.here [X.here.top, hx, hb, hdg, hmeth', hr, ret, narrow_b1]
  (try refine ⟨rfl, ?_⟩); (try refine ⟨rfl, ?_⟩)
  first | (intro acts; rw [hret _ acts rfl rfl rfl]) | rw [hret _ _ rfl rfl rfl]
  exact Steps.refl _
/-- what holds at the law's entry: the machine, the code, the tables' words (any of lw_tbl by 'hts w (by decide +kernel)'), the script of L ints xs at the cell b, what the Statement gives of the start (any of its parts by flat_of_before) -/
def lw_At (p : Program) (s : State) (m : MethodId) (meth : Method) (c : Code) (b L : Nat) (xs : Nat → Int32) : Prop :=
  p.tables.exec = Jvm.exec ∧ c.code = code ∧ meth.sig.returnType = ret ∧ c.maxLocals = 4 ∧ s.vm.findClass R_law = some m.cls ∧ (∀ w ∈ lw_tbl, w.before #[Value.ref b] s = true) ∧ va_X b L xs s s.heap ∧ b < s.heap.size ∧ meth.locks = false ∧ (Jvm.Cond.and given_1 narrow_1).before #[Value.ref b] s = true
end
section
theorem zla_len (b bs : Nat) : ∀ (as : List Value), (lg_sl (as.map (zcv b bs))).length = (zla as).length := by
  intro as
  induction as with
  | nil => rfl
  | cons a t ih =>
    have e1 : lg_sl ((a :: t).map (zcv b bs)) = (if (zcv b bs a).category = 2 then [Slot.val (zcv b bs a), Slot.second] else [Slot.val (zcv b bs a)]) ++ lg_sl (t.map (zcv b bs)) := rfl
    have e2 : zla (a :: t) = (if a.category = 2 then [some a, none] else [some a]) ++ zla t := rfl
    rw [e1, e2, List.length_append, List.length_append, ih, zcv_cat]
    by_cases h : a.category = 2
    · rw [if_pos h, if_pos h]; rfl
    · rw [if_neg h, if_neg h]; rfl
theorem zla_get (b bs : Nat) : ∀ (as : List Value) (j i : Nat) (v : Value), (zla as)[i]? = some (some v) → (j + i, zcv b bs v) ∈ lv_args j (as.map (zcv b bs)) := by
  intro as
  induction as with
  | nil => intro j i v h; cases h
  | cons a t ih =>
    intro j i v h
    have e1 : lv_args j ((a :: t).map (zcv b bs)) = (j, zcv b bs a) :: lv_args (if (zcv b bs a).category = 2 then j + 2 else j + 1) (t.map (zcv b bs)) := rfl
    have e2 : zla (a :: t) = (if a.category = 2 then [some a, none] else [some a]) ++ zla t := rfl
    rw [e1]
    rw [e2] at h
    rw [zcv_cat]
    by_cases hc : a.category = 2
    · rw [if_pos hc] at h ⊢
      match i, h with
      | 0, h => cases h; exact List.mem_cons_self
      | 1, h => cases h
      | i + 2, h =>
        have := ih (j + 2) i v h
        rw [show j + 2 + i = j + (i + 2) by omega] at this
        exact List.mem_cons_of_mem _ this
    · rw [if_neg hc] at h ⊢
      match i, h with
      | 0, h => cases h; exact List.mem_cons_self
      | i + 1, h =>
        have := ih (j + 1) i v h
        rw [show j + 1 + i = j + (i + 1) by omega] at this
        exact List.mem_cons_of_mem _ this
theorem zini_Lo (b bs : Nat) {m : zM} {as : List Value} (hl : (zla as).length ≤ zml m) {Ls : Array Slot} (h : lv_has Ls (zml m) (lv_args 0 (as.map (zcv b bs)))) : zLo b bs (zini m as) Ls (zml m) := by
  refine ⟨h.1, ?_, h.2.1, fun i v hv => ?_⟩
  · unfold zini
    rw [List.length_append, List.length_replicate]
    omega
  · unfold zini at hv
    by_cases hi : i < (zla as).length
    · rw [List.getElem?_append_left hi] at hv
      have := zla_get b bs as 0 i v hv
      rw [Nat.zero_add] at this
      exact h.2.2 _ this
    · rw [List.getElem?_append_right (by omega)] at hv
      have := List.mem_of_getElem? hv
      rw [List.mem_replicate] at this
      cases this.2
section zwhole
variable {l : Launch} {b bs : Nat} {cI cH : ClassId} {D : va_G} {X : zX}
set_option maxHeartbeats 1000000 in
theorem zev_ok : ∀ (d N : Nat) (m : zM) (as : List Value) (ph : zP) (h : zH) (x : zR), zmP m → zev X d N m as ph h = some x → zMet b bs cI cH D X l m as ph h x := by
  intro d
  induction d with
  | zero => intro N m as ph h x _ hz; cases hz
  | succ d ih =>
    intro N k as ph h x hp hz
    unfold zev at hz
    by_cases hl : (zla as).length ≤ zml k
    · rw [if_pos hl] at hz
      refine Met.ofW (cc := zb k) (maxL := zml k) (ret := zrt k) hp.2.2.1 rfl ?_
      intro p e s m args below meth c s₁ B hml hv
      obtain ⟨rfl, hG⟩ := hv
      obtain ⟨g1, g2, g3, g4, g5, g6, hNW⟩ := hG
      have hx := B.exec
      have hb := B.bytes
      have hr := B.returns
      have hw := atoms_spec (ws := zwd k) B.pre
      have hown : s.vm.findClass (zn k).cls = some m.cls := findClass_of_methodNamed B.named
      rw [hp.2.2.2.1] at hown
      have hlocks := B.notSynchronized
      have hnm : meth.name = (zn k).name := (name_of_methodNamed B.named B.method).1
      have hts : ∀ w ∈ zTs, w.before (as.map (zcv b bs)).toArray s = true := fun w hw1 => by
        have := (List.mem_filter.mp hw1).2
        rcases Bool.or_eq_true_iff.mp this with z | z
        · exact hw w (List.mem_cons_of_mem _ (List.mem_filter.mpr ⟨hw1, z⟩))
        · exact hNW.use hw1 z
      have F : zFx p s m (as.map (zcv b bs)).toArray meth c b bs cI cH D X k := ⟨hx, hb, hml, hown, hts, fun z => hnm.trans z, g4, g5, g6, by rw [g2]; exact Nat.le_add_right _ _⟩
      have hl2 := lv_entry (as.map (zcv b bs)) (n := zml k) (by rw [zla_len]; exact hl)
      rw [lg_entry_eq]
      generalize (lg_sl (as.map (zcv b bs)) ++ List.replicate (zml k - (lg_sl (as.map (zcv b bs))).length) Slot.unset).toArray = Ls at hl2 ⊢
      have S : zSt s b bs cI cH D (zml k) ph h (zini k as) s.heap [] Ls := ⟨g1, g2, g3, va_S.rf, zini_Lo b bs hl hl2⟩
      refine zex_ok (r := zrk k as) (CF := x.2.1.1 - ph.1) (SF := zsl x.2.1.1 - zsl ph.1) (fun m as p h x _ hp hz => ih N m as p h x hp hz) F hNW (Nat.le_refl _) (Nat.le_refl _) (Nat.le_refl _) (Nat.le_refl _) ?_ N (0, zini k as, [], ph, h) hz s.heap [] Ls 0 0 S (Nat.zero_add _) (Nat.zero_add _)
      intro pc ls st H locs Ls2 i len hd hrt S2
      have hq : ∀ (v : Option Value), x.1.map (zcv b bs) = v → ∀ t : State, t.heap = H → s.WarmedH t.vm → zQc b bs cI cH D X x (as.map (zcv b bs)).toArray s (.returned v) t := fun v hv t ht hW => ⟨by rw [hv], zG_at F S2 hNW ht hW, S2.2.2.2.1.F ht⟩
      have hf := S2.2.2.2.1.2.2
      unfold zrtn at hrt
      dsimp only at hrt
      by_cases h1 : len = 1
      · rw [if_pos h1] at hrt
        subst h1
        split at hrt
        · rename_i v hk
          rw [hk] at hr
          exact W.iret (v := v) hx hb hr (hq _ (by rw [← Option.some.inj hrt]; rfl)) hf hd hlocks
        · rename_i v hk
          rw [hk] at hr
          by_cases hv : v = 0 ∨ v = 1
          · rw [if_pos hv] at hrt
            exact W.zret (v := v) (ty := .boolean) hx hb hr (by rcases hv with rfl | rfl <;> rfl) (hq _ (by rw [← Option.some.inj hrt]; rfl)) hf hd hlocks
          · rw [if_neg hv] at hrt; cases hrt
        · rename_i v hk
          rw [hk] at hr
          exact W.lret (v := v) hx hb hr (hq _ (by rw [← Option.some.inj hrt]; rfl)) hf hd hlocks
        · rename_i a nm hk
          rw [hk] at hr
          exact W.aret (v := .ref (zad b bs a)) hx hb hr (Or.inl ⟨_, rfl⟩) (Or.inr ⟨_, rfl⟩) (hq _ (by rw [← Option.some.inj hrt]; rfl)) hf hd hlocks
        · rename_i hk
          rw [hk] at hr
          exact W.vret hx hb hr (hq _ (by rw [← Option.some.inj hrt]; rfl)) hf hd hlocks
        · cases hrt
      · rw [if_neg h1] at hrt; cases hrt
    · rw [if_neg hl] at hz; cases hz
end zwhole
def zh0 : zH := (fun _ _ => 0, 0)
/-- the claim, out of what the evaluator says of the law -/
theorem zwhole_of (HL : ∀ (L : Nat) (xs : Nat → Int32), L ≤ 3072 → ∃ n N d h', zex (L, xs) 15 m_L_law (zev (L, xs) d N) n (0, [some (.ref 0), none, none, none], [], (0, []), zh0) = some (some (.int 1), zPH, h'))
    {p : Program} {e : Env} {s : State} {m : MethodId} {below : List Frame} {meth : Method} {c : Code} (l : Launch) {b L : Nat} {xs : Nat → Int32} (hL : L ≤ 3072) (C0 : lw_At p s m meth c b L xs) : W p l e room_1 s m #[Value.ref b] below meth c s.heap [] 0 0 (lw_Z below #[Value.ref b] s) (entryFrame m ([Value.ref b] : List Value).toArray 4) := by
  obtain ⟨hx, hb, hr, hml, hown, hts0, hX, hbl, hlocks, hgv⟩ := id C0
  have hts : ∀ w ∈ zTs, w.before #[Value.ref b] s = true := fun w hw => hts0 w (List.mem_filter.mp hw).1
  obtain ⟨c0, iS0, k0⟩ := u_known (C := zcn 0) (T := zF 0) (N := 9) (n := 9) hts zuw_0 (hts _ zis_0)
  obtain ⟨c1, iS1, k1⟩ := u_known (C := zcn 1) (T := zF 1) (N := 3) (n := 3) hts zuw_1 (hts _ zis_1)
  obtain ⟨c2, iS2, k2⟩ := u_known (C := zcn 2) (T := zF 2) (N := 2) (n := 2) hts zuw_2 (hts _ zis_2)
  obtain ⟨c3, iS3, k3⟩ := u_known (C := zcn 3) (T := zF 3) (N := 10) (n := 10) hts zuw_3 (hts _ zis_3)
  obtain ⟨c4, iS4, k4⟩ := u_known (C := zcn 4) (T := zF 4) (N := 35) (n := 35) hts zuw_4 (hts _ zis_4)
  obtain ⟨dC, dI, hKc⟩ : ∃ (dC : Nat → ClassId) (dI : Nat → Nat → Nat), ∀ (k : Nat) (q : vw_C), zcls[k]? = some q → u_Kn s q.1 q.2.1 q.2.2 (dC k) (dI k) := by
    refine ⟨fun k => match k with | 0 => c0 | 1 => c1 | 2 => c2 | 3 => c3 | _ => c4, fun k => match k with | 0 => iS0 | 1 => iS1 | 2 => iS2 | 3 => iS3 | _ => iS4, ?_⟩
    intro k q hq
    match k, hq with
    | 0, hq => cases hq; exact k0
    | 1, hq => cases hq; exact k1
    | 2, hq => cases hq; exact k2
    | 3, hq => cases hq; exact k3
    | 4, hq => cases hq; exact k4
    | k + 5, hq => cases hq
  obtain ⟨cI, kI, compI, i1, i2, i3⟩ := Cond.arrayClass_spec (hts _ zarri)
  obtain ⟨compH, cH, kH, j1, j2, j3, j4, j5⟩ := Cond.arrayOver_spec (hts _ zarrh)
  have hK : va_K (dC, dI) zcls [(cI, .int), (cH, .object "SeenFromBehind$Hill")] s := by
    refine ⟨hKc, fun k q hq => ?_⟩
    match k, hq with
    | 0, hq => cases hq; exact ⟨fun n z => ⟨(fun k h => by cases h), kI, i2, compI, i3⟩, i1⟩
    | 1, hq => cases hq; exact ⟨fun n z => ⟨(fun k h => by cases h), kH, j3, compH, j4⟩, kH, compH, j3, j4, j1, j5⟩
    | k + 2, hq => cases hq
  have hNW : zNW s := fun w hw hn => by
    have h1 := hts w hw
    cases w with
    | fieldLinkNest a i x n d o => exact va_Nw.of rfl h1
    | methodLinkNest a i x o => exact va_Nw.of rfl h1
    | arrayOver t => cases t with
      | object C => exact va_AO.use (va_AO.of h1)
      | _ => cases hn
    | _ => cases hn
  obtain ⟨n, N, d, h', hz⟩ := HL L xs hL
  have F : zFx p s m #[Value.ref b] meth c b s.heap.size cI cH (dC, dI) (L, xs) m_L_law := ⟨hx, hb, hml, hown, hts, fun z => absurd z (by decide), hK, hX, hbl, Nat.le_refl _⟩
  have hl := lv_entry ([.ref b]) (n := 4) (Nat.le_of_ble_eq_true rfl)
  rw [lg_entry_eq]
  generalize (lg_sl ([.ref b]) ++ List.replicate (4 - (lg_sl ([.ref b])).length) Slot.unset).toArray = Ls at hl ⊢
  have hl : lv_has Ls 4 [(0, .ref b)] := hl
  have S : zSt s b s.heap.size cI cH (dC, dI) (zml m_L_law) (0, []) zh0 [some (.ref 0), none, none, none] s.heap [] Ls := by
    refine ⟨fun k q hq => by simp [zws] at hq, rfl, Nat.zero_le _, va_S.rf, hl.1, rfl, hl.2.1, fun i v hv => ?_⟩
    match i, hv with
    | 0, hv => cases hv; exact hl.2.2 _ List.mem_cons_self
    | 1, hv => cases hv
    | 2, hv => cases hv
    | 3, hv => cases hv
    | i + 4, hv => cases hv
  refine zex_ok (r := 15) (CF := 140) (SF := zsl 140) (x := (some (.int 1), zPH, h')) (fun m as p h x _ hp hz => zev_ok d N m as p h x hp hz) F hNW (Nat.le_of_ble_eq_true rfl) (Nat.le_of_ble_eq_true rfl) (Nat.le_of_ble_eq_true rfl) (by decide +kernel) ?_ n (0, [some (.ref 0), none, none, none], [], (0, []), zh0) hz s.heap [] Ls 0 0 S (by show 0 + (140 - 0) = 140; rfl) (by show 0 + (zsl 140 - zsl 0) = zsl 140; decide +kernel)
  intro pc ls st H locs Ls2 i len hd hrt S2
  have hf := S2.2.2.2.1.2.2
  unfold zrtn at hrt
  dsimp only at hrt
  by_cases h1 : len = 1
  · rw [if_pos h1] at hrt
    subst h1
    split at hrt
    · rename_i v hk; cases hk
    · rename_i v hk
      by_cases hv : v = 0 ∨ v = 1
      · rw [if_pos hv] at hrt
        cases hrt
        refine va_forget (fun q hq => hf q hq) ?_
        refine W.widen (k := 600000) (n := 7302249) (Nat.le_of_ble_eq_true rfl) (by decide +kernel) ?_
        exact lw_ret hx hb hr hlocks hd
      · rw [if_neg hv] at hrt; cases hrt
    · rename_i v hk; cases hk
    · rename_i a nm hk; cases hk
    · rename_i hk; cases hk
    · cases hrt
  · rw [if_neg h1] at hrt; cases hrt
end
section
/-! one row an instruction, for the runs behind the constructors -/
abbrev zrem (x y : Int32) : Int32 := x - x / y * y
abbrev zrmL (x y : Int64) : Int64 := x - x / y * y
theorem zif {α : Type} {c : Prop} [Decidable c] {A A' B B' : α} (h1 : A = A') (h2 : B = B') : (if c then A else B) = if c then A' else B' := by rw [h1, h2]
section zrows
variable {X : zX} {r : Nat} {k : zM} {pc n : Nat} {ls ls' : zL} {st : List Value} {h : zH} {i : Instr}
theorem zsim_cst {v : Value} {s : zS} (hc : zcst (zo k) i = some (v, n)) : zsim X k i n s = some (s.1 + n, s.2.1, v :: s.2.2.1, s.2.2.2) := by
  obtain ⟨pc, ls, st, ph, hh⟩ := s
  unfold zsim
  rw [hc]
  dsimp only
  unfold zxCst
  dsimp only
  rw [if_pos rfl]
theorem zsq_iadd {s : zS} : zsim X k .iadd n s = zxAr .iadd n s := rfl
theorem zsq_isub {s : zS} : zsim X k .isub n s = zxAr .isub n s := rfl
theorem zsq_imul {s : zS} : zsim X k .imul n s = zxAr .imul n s := rfl
theorem zsq_idiv {s : zS} : zsim X k .idiv n s = zxAr .idiv n s := rfl
theorem zsq_irem {s : zS} : zsim X k .irem n s = zxAr .irem n s := rfl
theorem zsq_iand {s : zS} : zsim X k .iand n s = zxAr .iand n s := rfl
theorem zsq_ior {s : zS} : zsim X k .ior n s = zxAr .ior n s := rfl
theorem zsq_ixor {s : zS} : zsim X k .ixor n s = zxAr .ixor n s := rfl
theorem zsq_ishl {s : zS} : zsim X k .ishl n s = zxAr .ishl n s := rfl
theorem zsq_ishr {s : zS} : zsim X k .ishr n s = zxAr .ishr n s := rfl
theorem zsq_iushr {s : zS} : zsim X k .iushr n s = zxAr .iushr n s := rfl
theorem zsq_ladd {s : zS} : zsim X k .ladd n s = zxAr .ladd n s := rfl
theorem zsq_lsub {s : zS} : zsim X k .lsub n s = zxAr .lsub n s := rfl
theorem zsq_lmul {s : zS} : zsim X k .lmul n s = zxAr .lmul n s := rfl
theorem zsq_ldiv {s : zS} : zsim X k .ldiv n s = zxAr .ldiv n s := rfl
theorem zsq_lrem {s : zS} : zsim X k .lrem n s = zxAr .lrem n s := rfl
theorem zsq_getfield {ix : Nat} {s : zS} : zsim X k (.getfield ix) n s = zxGet k ix n s := rfl
theorem zsq_putfield {ix : Nat} {s : zS} : zsim X k (.putfield ix) n s = zxPut k ix n s := rfl
theorem zsq_iaload {s : zS} : zsim X k .iaload n s = zxAld X n s := rfl
theorem zsq_iastore {s : zS} : zsim X k .iastore n s = zxAst n s := rfl
theorem zsq_aaload {s : zS} : zsim X k .aaload n s = zxQld n s := rfl
theorem zsq_arraylength {s : zS} : zsim X k .arraylength n s = zxLen X n s := rfl
theorem zsq_iinc {j : Nat} {q : Int} {s : zS} : zsim X k (.iinc j q) n s = zxInc j q n s := rfl
theorem zsq_goto {o : Int} {s : zS} : zsim X k (.goto o) n s = if n = 3 then zgo (ztg s.1 o) s.2.1 s.2.2.1 s.2.2.2.1 s.2.2.2.2 else none := rfl
theorem zsq_nn {o : Int} {s : zS} : zsim X k (.ifnonnull o) n s = zxNnull o n s := rfl
theorem zsq_if {c : Jvm.ClassFile.Cond} {o : Int} {s : zS} : zsim X k (.ifCond c o) n s = zxIf c o n s := rfl
theorem zsq_ic {c : Jvm.ClassFile.Cond} {o : Int} {s : zS} : zsim X k (.if_icmp c o) n s = zxIc c o n s := rfl
theorem zsq_is {ix : Nat} {s : zS} : zsim X k (.invokestatic ix) n s = zxMath k ix n s := rfl
theorem zsq_iv {ix : Nat} {s : zS} : zsim X k (.invokevirtual ix) n s = zxAr (.invokevirtual ix) n s := rfl
theorem rn_push {v : Value} (hd : decode (zb k) pc = .ok (i, n)) (hc : zcst (zo k) i = some (v, n)) : zrn X r k pc ls st h = zrn X r k (pc + n) ls (v :: st) h := rn_s hd (zsim_cst hc)
theorem rn_ld {j ty : Nat} {v : Value} (hd : decode (zb k) pc = .ok (i, n)) (hi : zldx i = some (j, ty, n)) (hc : zcst (zo k) i = none) (hl : ls[j]? = some (some v)) (hv : zty v = ty) : zrn X r k pc ls st h = zrn X r k (pc + n) ls (v :: st) h := rn_s hd (by
  unfold zsim
  rw [hc, hi]
  dsimp only
  unfold zxLd
  dsimp only
  rw [hl]
  dsimp only
  rw [if_pos ⟨rfl, hv⟩])
theorem rn_st {j ty : Nat} {v : Value} (hd : decode (zb k) pc = .ok (i, n)) (hi : zstx i = some (j, ty, n)) (hc : zcst (zo k) i = none) (hi2 : zldx i = none) (hty : ¬ ty = 2) (hv : zty v = ty) (hj : j < ls.length) (hl : zput1 ls j v = ls') : zrn X r k pc ls (v :: st) h = zrn X r k (pc + n) ls' st h := rn_s hd (by
  unfold zsim
  rw [hc, hi2, hi]
  dsimp only
  unfold zxSt
  dsimp only
  rw [if_pos ⟨rfl, hv⟩, if_neg hty, if_pos hj, hl])
theorem rn_st2 {j : Nat} {v : Int64} (hd : decode (zb k) pc = .ok (i, n)) (hi : zstx i = some (j, 2, n)) (hc : zcst (zo k) i = none) (hi2 : zldx i = none) (hj : j + 1 < ls.length) (hl : zput2 ls j (.long v) = ls') : zrn X r k pc ls (.long v :: st) h = zrn X r k (pc + n) ls' st h := rn_s hd (by
  unfold zsim
  rw [hc, hi2, hi]
  dsimp only
  unfold zxSt
  dsimp only
  rw [if_pos ⟨rfl, rfl⟩, if_pos rfl, if_pos hj, hl])
theorem zar_sim {x y v : Int32} {s : zS} (ha : zar i x y = some v) : zsim X k i 1 (pc, ls, .int y :: .int x :: st, zPH, h) = some (pc + 1, ls, .int v :: st, zPH, h) := by
  cases i with
  | iadd => rw [zsq_iadd]; unfold zxAr; dsimp only; rw [ha]; rfl
  | isub => rw [zsq_isub]; unfold zxAr; dsimp only; rw [ha]; rfl
  | imul => rw [zsq_imul]; unfold zxAr; dsimp only; rw [ha]; rfl
  | idiv => rw [zsq_idiv]; unfold zxAr; dsimp only; rw [ha]; rfl
  | irem => rw [zsq_irem]; unfold zxAr; dsimp only; rw [ha]; rfl
  | iand => rw [zsq_iand]; unfold zxAr; dsimp only; rw [ha]; rfl
  | ior => rw [zsq_ior]; unfold zxAr; dsimp only; rw [ha]; rfl
  | ixor => rw [zsq_ixor]; unfold zxAr; dsimp only; rw [ha]; rfl
  | ishl => rw [zsq_ishl]; unfold zxAr; dsimp only; rw [ha]; rfl
  | ishr => rw [zsq_ishr]; unfold zxAr; dsimp only; rw [ha]; rfl
  | iushr => rw [zsq_iushr]; unfold zxAr; dsimp only; rw [ha]; rfl
  | _ => cases ha
theorem zal_sim {x y v : Int64} {s : zS} (ha : zal i x y = some v) : zsim X k i 1 (pc, ls, .long y :: .long x :: st, zPH, h) = some (pc + 1, ls, .long v :: st, zPH, h) := by
  cases i with
  | ladd => rw [zsq_ladd]; unfold zxAr; dsimp only; rw [ha]; rfl
  | lsub => rw [zsq_lsub]; unfold zxAr; dsimp only; rw [ha]; rfl
  | lmul => rw [zsq_lmul]; unfold zxAr; dsimp only; rw [ha]; rfl
  | ldiv => rw [zsq_ldiv]; unfold zxAr; dsimp only; rw [ha]; rfl
  | lrem => rw [zsq_lrem]; unfold zxAr; dsimp only; rw [ha]; rfl
  | _ => cases ha
theorem rn_a2 {x y v : Int32} (hd : decode (zb k) pc = .ok (i, 1)) (ha : zar i x y = some v) : zrn X r k pc ls (.int y :: .int x :: st) h = zrn X r k (pc + 1) ls (.int v :: st) h := rn_s hd (zar_sim (s := (0, [], [], zPH, h)) ha)
theorem rn_al {x y v : Int64} (hd : decode (zb k) pc = .ok (i, 1)) (ha : zal i x y = some v) : zrn X r k pc ls (.long y :: .long x :: st) h = zrn X r k (pc + 1) ls (.long v :: st) h := rn_s hd (zal_sim (s := (0, [], [], zPH, h)) ha)
theorem zar_div {x y : Int32} (hy : ¬ y = 0) : zar .idiv x y = some (x / y) := if_neg hy
theorem zar_rem {x y : Int32} (hy : ¬ y = 0) : zar .irem x y = some (zrem x y) := if_neg hy
theorem zal_div {x y : Int64} (hy : ¬ y = 0) : zal .ldiv x y = some (x / y) := if_neg hy
theorem zal_rem {x y : Int64} (hy : ¬ y = 0) : zal .lrem x y = some (zrmL x y) := if_neg hy
theorem rn_neg {x : Int32} (hd : decode (zb k) pc = .ok (.ineg, 1)) : zrn X r k pc ls (.int x :: st) h = zrn X r k (pc + 1) ls (.int (-x) :: st) h := rn_s hd rfl
theorem rn_i2l {x : Int32} (hd : decode (zb k) pc = .ok (.i2l, 1)) : zrn X r k pc ls (.int x :: st) h = zrn X r k (pc + 1) ls (.long x.toInt64 :: st) h := rn_s hd rfl
theorem rn_lcmp {x y : Int64} (hd : decode (zb k) pc = .ok (.lcmp, 1)) : zrn X r k pc ls (.long y :: .long x :: st) h = zrn X r k (pc + 1) ls (.int (lg_cmp x y) :: st) h := rn_s hd rfl
theorem rn_dup {v : Value} (hd : decode (zb k) pc = .ok (.dup, 1)) (hv : v.category = 1) : zrn X r k pc ls (v :: st) h = zrn X r k (pc + 1) ls (v :: v :: st) h := rn_s hd (if_pos ⟨rfl, hv⟩)
theorem rn_dup2 {v u : Value} (hd : decode (zb k) pc = .ok (.dup2, 1)) (hv : v.category = 1) (hu : u.category = 1) : zrn X r k pc ls (v :: u :: st) h = zrn X r k (pc + 1) ls (v :: u :: v :: u :: st) h := rn_s hd (if_pos ⟨rfl, hv, hu⟩)
theorem rn_pop {v : Value} (hd : decode (zb k) pc = .ok (.pop, 1)) (hv : v.category = 1) : zrn X r k pc ls (v :: st) h = zrn X r k (pc + 1) ls st h := rn_s hd (if_pos ⟨rfl, hv⟩)
theorem rn_inc {j : Nat} {q : Int} {x c : Int32} (hd : decode (zb k) pc = .ok (.iinc j q, 3)) (hl : ls[j]? = some (some (.int x))) (hc : Int32.ofInt q = c) (hl2 : zput1 ls j (.int (x + c)) = ls') : zrn X r k pc ls st h = zrn X r k (pc + 3) ls' st h := rn_s hd (by
  rw [zsq_iinc]
  unfold zxInc
  dsimp only
  rw [hl]
  dsimp only
  rw [if_pos rfl, hc, hl2])
theorem rn_goto {o : Int} {t : Nat} (hd : decode (zb k) pc = .ok (.goto o, 3)) (ht : ztg pc o = some t) : zrn X r k pc ls st h = zrn X r k t ls st h := rn_s hd (by
  rw [zsq_goto]
  dsimp only
  rw [if_pos rfl, ht]
  rfl)
theorem rn_ic {c : Jvm.ClassFile.Cond} {o : Int} {t : Nat} {x y : Int32} (hd : decode (zb k) pc = .ok (.if_icmp c o, 3)) (ht : ztg pc o = some t) : zrn X r k pc ls (.int y :: .int x :: st) h = zrn X r k (if zic c x y = true then t else pc + 3) ls st h := rn_s hd (by
  rw [zsq_ic]
  unfold zxIc
  dsimp only
  rw [if_pos rfl, ht])
theorem rn_if {c : Jvm.ClassFile.Cond} {o : Int} {t : Nat} {x : Int32} (hd : decode (zb k) pc = .ok (.ifCond c o, 3)) (ht : ztg pc o = some t) : zrn X r k pc ls (.int x :: st) h = zrn X r k (if zic c x 0 = true then t else pc + 3) ls st h := rn_s hd (by
  rw [zsq_if]
  unfold zxIf
  dsimp only
  rw [if_pos rfl, ht])
theorem zsplit {b : Bool} {c : Prop} [Decidable c] {t u : Nat} (hb : b = decide c) : zrn X r k (if b = true then t else u) ls st h = if c then zrn X r k t ls st h else zrn X r k u ls st h := by
  subst hb
  by_cases hc : c
  · rw [if_pos hc, if_pos (decide_eq_true hc)]
  · rw [if_neg hc, if_neg (fun z => hc (of_decide_eq_true z))]
theorem zsplitN {b : Bool} {c : Prop} [Decidable c] {t u : Nat} (hb : b = decide (¬ c)) : zrn X r k (if b = true then t else u) ls st h = if c then zrn X r k u ls st h else zrn X r k t ls st h := by
  subst hb
  by_cases hc : c
  · rw [if_pos hc, if_neg (fun z => (of_decide_eq_true z : ¬ c) hc)]
  · rw [if_neg hc, if_pos (decide_eq_true hc)]
theorem rn_ic_eq {o : Int} {t : Nat} {x y : Int32} (hd : decode (zb k) pc = .ok (.if_icmp .eq o, 3)) (ht : ztg pc o = some t) : zrn X r k pc ls (.int y :: .int x :: st) h = if x = y then zrn X r k t ls st h else zrn X r k (pc + 3) ls st h := (rn_ic hd ht).trans (zsplit rfl)
theorem rn_if_eq {o : Int} {t : Nat} {x : Int32} (hd : decode (zb k) pc = .ok (.ifCond .eq o, 3)) (ht : ztg pc o = some t) : zrn X r k pc ls (.int x :: st) h = if x = 0 then zrn X r k t ls st h else zrn X r k (pc + 3) ls st h := (rn_if hd ht).trans (zsplit rfl)
theorem rn_ic_lt {o : Int} {t : Nat} {x y : Int32} (hd : decode (zb k) pc = .ok (.if_icmp .lt o, 3)) (ht : ztg pc o = some t) : zrn X r k pc ls (.int y :: .int x :: st) h = if x < y then zrn X r k t ls st h else zrn X r k (pc + 3) ls st h := (rn_ic hd ht).trans (zsplit rfl)
theorem rn_if_lt {o : Int} {t : Nat} {x : Int32} (hd : decode (zb k) pc = .ok (.ifCond .lt o, 3)) (ht : ztg pc o = some t) : zrn X r k pc ls (.int x :: st) h = if x < 0 then zrn X r k t ls st h else zrn X r k (pc + 3) ls st h := (rn_if hd ht).trans (zsplit rfl)
theorem rn_ic_ge {o : Int} {t : Nat} {x y : Int32} (hd : decode (zb k) pc = .ok (.if_icmp .ge o, 3)) (ht : ztg pc o = some t) : zrn X r k pc ls (.int y :: .int x :: st) h = if y ≤ x then zrn X r k t ls st h else zrn X r k (pc + 3) ls st h := (rn_ic hd ht).trans (zsplit rfl)
theorem rn_if_ge {o : Int} {t : Nat} {x : Int32} (hd : decode (zb k) pc = .ok (.ifCond .ge o, 3)) (ht : ztg pc o = some t) : zrn X r k pc ls (.int x :: st) h = if 0 ≤ x then zrn X r k t ls st h else zrn X r k (pc + 3) ls st h := (rn_if hd ht).trans (zsplit rfl)
theorem rn_ic_gt {o : Int} {t : Nat} {x y : Int32} (hd : decode (zb k) pc = .ok (.if_icmp .gt o, 3)) (ht : ztg pc o = some t) : zrn X r k pc ls (.int y :: .int x :: st) h = if y < x then zrn X r k t ls st h else zrn X r k (pc + 3) ls st h := (rn_ic hd ht).trans (zsplit rfl)
theorem rn_if_gt {o : Int} {t : Nat} {x : Int32} (hd : decode (zb k) pc = .ok (.ifCond .gt o, 3)) (ht : ztg pc o = some t) : zrn X r k pc ls (.int x :: st) h = if 0 < x then zrn X r k t ls st h else zrn X r k (pc + 3) ls st h := (rn_if hd ht).trans (zsplit rfl)
theorem rn_ic_le {o : Int} {t : Nat} {x y : Int32} (hd : decode (zb k) pc = .ok (.if_icmp .le o, 3)) (ht : ztg pc o = some t) : zrn X r k pc ls (.int y :: .int x :: st) h = if x ≤ y then zrn X r k t ls st h else zrn X r k (pc + 3) ls st h := (rn_ic hd ht).trans (zsplit rfl)
theorem rn_if_le {o : Int} {t : Nat} {x : Int32} (hd : decode (zb k) pc = .ok (.ifCond .le o, 3)) (ht : ztg pc o = some t) : zrn X r k pc ls (.int x :: st) h = if x ≤ 0 then zrn X r k t ls st h else zrn X r k (pc + 3) ls st h := (rn_if hd ht).trans (zsplit rfl)
theorem rn_ic_ne {o : Int} {t : Nat} {x y : Int32} (hd : decode (zb k) pc = .ok (.if_icmp .ne o, 3)) (ht : ztg pc o = some t) : zrn X r k pc ls (.int y :: .int x :: st) h = if x = y then zrn X r k (pc + 3) ls st h else zrn X r k t ls st h := (rn_ic hd ht).trans (zsplitN rfl)
theorem rn_if_ne {o : Int} {t : Nat} {x : Int32} (hd : decode (zb k) pc = .ok (.ifCond .ne o, 3)) (ht : ztg pc o = some t) : zrn X r k pc ls (.int x :: st) h = if x = 0 then zrn X r k (pc + 3) ls st h else zrn X r k t ls st h := (rn_if hd ht).trans (zsplitN rfl)
theorem rn_nn {o : Int} {t a : Nat} (hd : decode (zb k) pc = .ok (.ifnonnull o, 3)) (ht : ztg pc o = some t) : zrn X r k pc ls (.ref a :: st) h = zrn X r k t ls st h := rn_s hd (by
  rw [zsq_nn]
  unfold zxNnull
  dsimp only
  rw [if_pos rfl, ht]
  rfl)
theorem rn_nu {o : Int} {a : Nat} (hd : decode (zb k) pc = .ok (.ifnull o, 3)) : zrn X r k pc ls (.ref a :: st) h = zrn X r k (pc + 3) ls st h := rn_s hd rfl
theorem zcl140 {a : Nat} {x : Nat × Nat} (h : zcl 140 a = x) : zcl zPH.1 a = x := h
theorem rn_gi {ix ci j a : Nat} (hd : decode (zb k) pc = .ok (.getfield ix, 3)) (hf : zfd (zo k) ix = (ci, j, 0)) (ha : zcl 140 a = (2 + ci, zNf ci)) : zrn X r k pc ls (.ref a :: st) h = zrn X r k (pc + 3) ls (.int (h.1 a j) :: st) h := rn_s hd (by
  rw [zsq_getfield]
  unfold zxGet
  dsimp only
  rw [hf]
  dsimp only
  rw [if_pos ⟨rfl, ha⟩]
  try rfl)
theorem rn_gz {ix ci j a : Nat} (hd : decode (zb k) pc = .ok (.getfield ix, 3)) (hf : zfd (zo k) ix = (ci, j, 1)) (ha : zcl 140 a = (2 + ci, zNf ci)) : zrn X r k pc ls (.ref a :: st) h = zrn X r k (pc + 3) ls (.int (h.1 a j) :: st) h := rn_s hd (by
  rw [zsq_getfield]
  unfold zxGet
  dsimp only
  rw [hf]
  dsimp only
  rw [if_pos ⟨rfl, ha⟩]
  try rfl)
theorem rn_gr {ix ci j a q : Nat} (hd : decode (zb k) pc = .ok (.getfield ix, 3)) (hf : zfd (zo k) ix = (ci, j, 2)) (ha : zcl 140 a = (2 + ci, zNf ci)) (hq : zlk zPH.2 a j = q + 1) : zrn X r k pc ls (.ref a :: st) h = zrn X r k (pc + 3) ls (.ref (q + 1) :: st) h := rn_s hd (by
  rw [zsq_getfield]
  unfold zxGet
  dsimp only
  rw [hf]
  dsimp only
  rw [if_pos ⟨rfl, ha⟩, hq]
  rfl)
theorem rn_gk {ix ci j a q : Nat} (hd : decode (zb k) pc = .ok (.getfield ix, 3)) (hf : zfd (zo k) ix = (ci, j, 3)) (ha : zcl 140 a = (2 + ci, zNf ci)) (hq : h.2 = q + 1) : zrn X r k pc ls (.ref a :: st) h = zrn X r k (pc + 3) ls (.ref (q + 1) :: st) h := rn_s hd (by
  rw [zsq_getfield]
  unfold zxGet
  dsimp only
  rw [hf]
  dsimp only
  rw [if_pos ⟨rfl, ha⟩, hq]
  rfl)
theorem rn_pi {ix ci j a : Nat} {x : Int32} (hd : decode (zb k) pc = .ok (.putfield ix, 3)) (hf : zfd (zo k) ix = (ci, j, 0)) (ha : zcl 140 a = (2 + ci, zNf ci)) : zrn X r k pc ls (.int x :: .ref a :: st) h = zrn X r k (pc + 3) ls st (zup h.1 a j x, h.2) := rn_s hd (by
  rw [zsq_putfield]
  unfold zxPut
  dsimp only
  rw [hf]
  dsimp only
  rw [if_pos ⟨rfl, ha⟩]
  try rfl)
theorem rn_pz {ix ci j a : Nat} {x : Int32} (hd : decode (zb k) pc = .ok (.putfield ix, 3)) (hf : zfd (zo k) ix = (ci, j, 1)) (ha : zcl 140 a = (2 + ci, zNf ci)) (hx : x = 0 ∨ x = 1) : zrn X r k pc ls (.int x :: .ref a :: st) h = zrn X r k (pc + 3) ls st (zup h.1 a j x, h.2) := rn_s hd (by
  rw [zsq_putfield]
  unfold zxPut
  dsimp only
  rw [hf]
  dsimp only
  rw [if_pos ⟨rfl, ha⟩]
  exact if_pos hx)
theorem rn_pk {ix ci j a q : Nat} (hd : decode (zb k) pc = .ok (.putfield ix, 3)) (hf : zfd (zo k) ix = (ci, j, 3)) (ha : zcl 140 a = (2 + ci, zNf ci)) : zrn X r k pc ls (.ref (q + 1) :: .ref a :: st) h = zrn X r k (pc + 3) ls st (h.1, q + 1) := rn_s hd (by
  rw [zsq_putfield]
  unfold zxPut
  dsimp only
  rw [hf]
  dsimp only
  rw [if_pos ⟨rfl, ha⟩]
  rfl)
theorem zgd_if {c : Prop} [Decidable c] {s' : zS} {b : Bool} {t : Nat} {l1 : zL} {s1 : List Value} {h1 : zH} (hd : decode (zb k) pc = .ok (i, n)) (hs : zsim X k i n (pc, ls, st, zPH, h) = if b = true then some (t, l1, s1, zPH, h1) else none) (hr : zrtn k i n (pc, ls, st, zPH, h) = none) (hi : zinv k i n (pc, ls, st, zPH, h) = none) : zrn X r k pc ls st h = if b = true then zrn X r k t l1 s1 h1 else none := by
  by_cases hb : b = true
  · rw [if_pos hb] at hs ⊢
    exact rn_s hd hs
  · rw [if_neg hb] at hs ⊢
    exact rn_n hd hs hr hi
theorem zand1 {c : Bool} {α : Type} {A B : α} {p q : Prop} [Decidable p] [Decidable q] (hp : p) (hq : q) : (if p ∧ q ∧ c = true then A else B) = if c = true then A else B := by
  by_cases h : c = true
  · rw [if_pos h, if_pos ⟨hp, hq, h⟩]
  · rw [if_neg h, if_neg (fun z => h z.2.2)]
theorem rn_ial {a m : Nat} {x : Int32} (hd : decode (zb k) pc = .ok (.iaload, 1)) (ha : zcl 140 (a + 1) = (0, m)) : zrn X r k pc ls (.int x :: .ref (a + 1) :: st) h = if zin x m = true then zrn X r k (pc + 1) ls (.int (h.1 (a + 1) x.toNatClampNeg) :: st) h else none := zgd_if (c := True) (s' := (0, [], [], zPH, h)) hd (by
  rw [zsq_iaload]
  unfold zxAld
  dsimp only
  rw [zcl140 ha]
  exact zand1 rfl rfl) rfl rfl
theorem rn_sld {x : Int32} (hd : decode (zb k) pc = .ok (.iaload, 1)) : zrn X r k pc ls (.int x :: .ref 0 :: st) h = if zin x X.1 = true then zrn X r k (pc + 1) ls (.int (X.2 x.toNatClampNeg) :: st) h else none := zgd_if (c := True) (s' := (0, [], [], zPH, h)) hd (by
  rw [zsq_iaload]
  unfold zxAld
  dsimp only
  by_cases hz : zin x X.1 = true
  · rw [if_pos hz, if_pos ⟨rfl, hz⟩]
  · rw [if_neg hz, if_neg (fun q => hz q.2)]) rfl rfl
theorem rn_ias {a m : Nat} {x v : Int32} (hd : decode (zb k) pc = .ok (.iastore, 1)) (ha : zcl 140 a = (0, m)) : zrn X r k pc ls (.int v :: .int x :: .ref a :: st) h = if zin x m = true then zrn X r k (pc + 1) ls st (zup h.1 a x.toNatClampNeg v, h.2) else none := zgd_if (c := True) (s' := (0, [], [], zPH, h)) hd (by
  rw [zsq_iastore]
  unfold zxAst
  dsimp only
  rw [zcl140 ha]
  exact zand1 rfl rfl) rfl rfl
theorem rn_aal {a m : Nat} {x : Int32} (hd : decode (zb k) pc = .ok (.aaload, 1)) (ha : zcl 140 a = (1, m)) : zrn X r k pc ls (.int x :: .ref a :: st) h = if zin x m = true then zrn X r k (pc + 1) ls (zrv (zlk zPH.2 a x.toNatClampNeg) :: st) h else none := zgd_if (c := True) (s' := (0, [], [], zPH, h)) hd (by
  rw [zsq_aaload]
  unfold zxQld
  dsimp only
  rw [zcl140 ha]
  exact zand1 rfl rfl) rfl rfl
theorem rn_len {a t m : Nat} (hd : decode (zb k) pc = .ok (.arraylength, 1)) (ha : zcl 140 (a + 1) = (t, m)) (ht : t = 0 ∨ t = 1) : zrn X r k pc ls (.ref (a + 1) :: st) h = zrn X r k (pc + 1) ls (.int (Int32.ofNat m) :: st) h := rn_s hd (by
  rw [zsq_arraylength]
  unfold zxLen
  dsimp only
  rw [zcl140 ha]
  dsimp only
  rw [if_pos ⟨rfl, ht⟩])
theorem rn_slen (hd : decode (zb k) pc = .ok (.arraylength, 1)) : zrn X r k pc ls (.ref 0 :: st) h = zrn X r k (pc + 1) ls (.int (Int32.ofNat X.1) :: st) h := rn_s hd rfl
theorem rn_min {ix : Nat} {x y : Int32} (hd : decode (zb k) pc = .ok (.invokestatic ix, 3)) (hb : zco0 zbiT (zo k) ix = some 2) (hc : zcat st ≤ 8) : zrn X r k pc ls (.int y :: .int x :: st) h = zrn X r k (pc + 3) ls (.int (if y < x then y else x) :: st) h := rn_s hd (by
  rw [zsq_is]
  unfold zxMath
  dsimp only
  rw [hb]
  exact if_pos ⟨rfl, hc⟩)
theorem rn_abs {ix : Nat} {y : Int32} (hd : decode (zb k) pc = .ok (.invokestatic ix, 3)) (hb : zco0 zbiT (zo k) ix = some 3) (hc : zcat st ≤ 8) : zrn X r k pc ls (.int y :: st) h = zrn X r k (pc + 3) ls (.int (if 0 ≤ y then y else 0 - y) :: st) h := rn_s hd (by
  rw [zsq_is]
  unfold zxMath
  dsimp only
  rw [hb]
  exact if_pos ⟨rfl, hc⟩)
theorem rn_ri {v : Int32} (hd : decode (zb k) pc = .ok (.ireturn, 1)) (hr : zrt k = some .int) : zrn X r k pc ls [.int v] h = some (some (.int v), h) := rn_r hd rfl (by unfold zrtn; rw [hr]; rfl)
theorem rn_rz {v : Int32} (hd : decode (zb k) pc = .ok (.ireturn, 1)) (hr : zrt k = some .boolean) (hv : v = 0 ∨ v = 1) : zrn X r k pc ls [.int v] h = some (some (.int v), h) := rn_r hd rfl (by unfold zrtn; rw [hr]; dsimp only; rw [if_pos rfl, if_pos hv])
theorem rn_rl {v : Int64} (hd : decode (zb k) pc = .ok (.lreturn, 1)) (hr : zrt k = some .long) : zrn X r k pc ls [.long v] h = some (some (.long v), h) := rn_r hd rfl (by unfold zrtn; rw [hr]; rfl)
theorem rn_rr {a : Nat} {nm : String} (hd : decode (zb k) pc = .ok (.areturn, 1)) (hr : zrt k = some (.object nm)) : zrn X r k pc ls [.ref a] h = some (some (.ref a), h) := rn_r hd rfl (by unfold zrtn; rw [hr]; rfl)
theorem rn_rv (hd : decode (zb k) pc = .ok (.return_, 1)) (hr : zrt k = none) : zrn X r k pc ls [] h = some (none, h) := rn_r hd rfl (by unfold zrtn; rw [hr]; rfl)
/-- the kind of an answer -/
theorem zrtn_ty {s : zS} {x : zR} (hz : zrtn k i n s = some x) : ((zrt k = some .int ∨ zrt k = some .boolean) → ∃ v, x.1 = some (.int v)) ∧ (zrt k = some .long → ∃ v, x.1 = some (.long v)) ∧ (zrt k = none → x.1 = none) ∧ (∀ nm, zrt k = some (.object nm) → ∃ a, x.1 = some (.ref a)) := by
  obtain ⟨pc, ls, st, ph, hh⟩ := s
  unfold zrtn at hz
  dsimp only at hz
  by_cases hl : n = 1
  · rw [if_pos hl] at hz
    split at hz
    · rename_i v hk
      cases hz
      rw [hk]
      exact ⟨fun _ => ⟨_, rfl⟩, fun z => (by cases z), fun z => (by cases z), fun _ z => (by cases z)⟩
    · rename_i v hk
      split at hz
      · cases hz
        rw [hk]
        exact ⟨fun _ => ⟨_, rfl⟩, fun z => (by cases z), fun z => (by cases z), fun _ z => (by cases z)⟩
      · cases hz
    · rename_i v hk
      cases hz
      rw [hk]
      exact ⟨fun z => (by rcases z with z | z <;> cases z), fun _ => ⟨_, rfl⟩, fun z => (by cases z), fun _ z => (by cases z)⟩
    · rename_i a nm hk
      cases hz
      rw [hk]
      exact ⟨fun z => (by rcases z with z | z <;> cases z), fun z => (by cases z), fun z => (by cases z), fun _ _ => ⟨_, rfl⟩⟩
    · rename_i hk
      cases hz
      rw [hk]
      exact ⟨fun z => (by rcases z with z | z <;> cases z), fun z => (by cases z), fun _ => rfl, fun _ z => (by cases z)⟩
    · cases hz
  · rw [if_neg hl] at hz; cases hz
theorem zex_ty {C : zM → List Value → zP → zH → Option zR} {x : zR} : ∀ (N : Nat) (s : zS), zex X r k C N s = some x → ∃ i n s', zrtn k i n s' = some x := by
  intro N
  induction N with
  | zero => intro s hz; cases hz
  | succ N ih =>
    intro s hz
    unfold zex at hz
    cases hs : zst X r k C s with
    | none => rw [hs] at hz; cases hz
    | some y =>
      rw [hs] at hz
      cases y with
      | inl s' => exact ih s' hz
      | inr z =>
        cases hz
        obtain ⟨i, len, h1, h2⟩ := zst_inr hs
        exact ⟨i, len, s, h2⟩
theorem zcf_ty {m : zM} {as : List Value} {x : Option Value × zH} (hz : zcf X m as h = some x) : ((zrt m = some .int ∨ zrt m = some .boolean) → ∃ v, x.1 = some (.int v)) ∧ (zrt m = some .long → ∃ v, x.1 = some (.long v)) ∧ (zrt m = none → x.1 = none) ∧ (∀ nm, zrt m = some (.object nm) → ∃ a, x.1 = some (.ref a)) := by
  obtain ⟨N, hN⟩ := zlim_some hz
  have hN := zfr_some hN
  unfold zev at hN
  by_cases hl : (zla as).length ≤ zml m
  · rw [if_pos hl] at hN
    obtain ⟨i, n, s', h1⟩ := zex_ty _ _ hN
    exact zrtn_ty h1
  · rw [if_neg hl] at hN; cases hN
def zbI (o : Option (Option Value × zH)) (f : Int32 → zH → Option (Option Value × zH)) : Option (Option Value × zH) := match o with | some (some (.int v), h) => f v h | _ => none
def zbL (o : Option (Option Value × zH)) (f : Int64 → zH → Option (Option Value × zH)) : Option (Option Value × zH) := match o with | some (some (.long v), h) => f v h | _ => none
def zbR (o : Option (Option Value × zH)) (f : Nat → zH → Option (Option Value × zH)) : Option (Option Value × zH) := match o with | some (some (.ref v), h) => f v h | _ => none
def zbV (o : Option (Option Value × zH)) (f : zH → Option (Option Value × zH)) : Option (Option Value × zH) := match o with | some (none, h) => f h | _ => none
theorem zbI_congr {o : Option (Option Value × zH)} {f g : Int32 → zH → Option (Option Value × zH)} (e : ∀ v h, f v h = g v h) : zbI o f = zbI o g := by
  have : f = g := funext fun v => funext fun h => e v h
  rw [this]
theorem zbL_congr {o : Option (Option Value × zH)} {f g : Int64 → zH → Option (Option Value × zH)} (e : ∀ v h, f v h = g v h) : zbL o f = zbL o g := by
  have : f = g := funext fun v => funext fun h => e v h
  rw [this]
theorem zbV_congr {o : Option (Option Value × zH)} {f g : zH → Option (Option Value × zH)} (e : ∀ h, f h = g h) : zbV o f = zbV o g := by
  have : f = g := funext fun h => e h
  rw [this]
theorem zbI_some {v : Int32} {f : Int32 → zH → Option (Option Value × zH)} : zbI (some (some (.int v), h)) f = f v h := rfl
theorem zbL_some {v : Int64} {f : Int64 → zH → Option (Option Value × zH)} : zbL (some (some (.long v), h)) f = f v h := rfl
theorem zbR_some {v : Nat} {f : Nat → zH → Option (Option Value × zH)} : zbR (some (some (.ref v), h)) f = f v h := rfl
theorem zbV_some {f : zH → Option (Option Value × zH)} : zbV (some (none, h)) f = f h := rfl
variable {m : zM} {as rest : List Value} {ix kd a : Nat} {ar : List Value}
theorem zinv_v (hm : zco0 zmtT (zo k) ix = some (kd, m)) (hkd : kd ≤ 1) (hl : znp m ≤ st.length) (h1 : st.drop (znp m) = .ref a :: rest) (h2 : (st.take (znp m)).reverse = ar) (ha : zcl 140 a = (2 + zo m, zNf (zo m))) (hc : zcat rest ≤ 8) : zinv k (.invokevirtual ix) 3 (pc, ls, st, zPH, h) = some (m, .ref a :: ar, rest, false) := by
  unfold zinv
  dsimp only
  rw [if_pos rfl, hm]
  dsimp only
  rw [if_pos ⟨hkd, hl⟩, h1]
  dsimp only
  rw [if_pos ⟨ha, hc⟩, h2]
theorem zinv_s (hm : zco0 zmtT (zo k) ix = some (kd, m)) (hkd : kd = 2 ∨ kd = 3) (hl : znp m ≤ st.length) (h1 : st.drop (znp m) = rest) (h2 : (st.take (znp m)).reverse = ar) (hc : zcat rest ≤ 8) : zinv k (.invokestatic ix) 3 (pc, ls, st, zPH, h) = some (m, ar, rest, false) := by
  unfold zinv
  dsimp only
  rw [if_pos rfl, hm]
  dsimp only
  rw [if_pos ⟨hkd, hl, by rw [h1]; exact hc⟩, h1, h2]
theorem zsim_iv {s : zS} : zsim X k (.invokevirtual ix) n s = none := by
  rw [zsq_iv]
  unfold zxAr
  split <;> rfl
theorem zsim_is {s : zS} (hb : zco0 zbiT (zo k) ix = none) : zsim X k (.invokestatic ix) n s = none := by
  rw [zsq_is]
  unfold zxMath
  split
  · rw [hb]
  · rfl
theorem zrtn_iv {s : zS} : zrtn k (.invokevirtual ix) n s = none := by
  obtain ⟨pc, ls, st, ph, hh⟩ := s
  unfold zrtn
  dsimp only
  split <;> rfl
theorem zrtn_is {s : zS} : zrtn k (.invokestatic ix) n s = none := by
  obtain ⟨pc, ls, st, ph, hh⟩ := s
  unfold zrtn
  dsimp only
  split <;> rfl
theorem zcI {f : Option Value → zH → Option (Option Value × zH)} (hr : zrt m = some .int ∨ zrt m = some .boolean) : zbd (zcf X m as h) f = zbI (zcf X m as h) fun v h' => f (some (.int v)) h' := by
  cases hz : zcf X m as h with
  | none => rfl
  | some x =>
    obtain ⟨v, hv⟩ := (zcf_ty hz).1 hr
    obtain ⟨y, h'⟩ := x
    dsimp only at hv
    subst hv
    rfl
theorem zcL {f : Option Value → zH → Option (Option Value × zH)} (hr : zrt m = some .long) : zbd (zcf X m as h) f = zbL (zcf X m as h) fun v h' => f (some (.long v)) h' := by
  cases hz : zcf X m as h with
  | none => rfl
  | some x =>
    obtain ⟨v, hv⟩ := (zcf_ty hz).2.1 hr
    obtain ⟨y, h'⟩ := x
    dsimp only at hv
    subst hv
    rfl
theorem zcV {f : Option Value → zH → Option (Option Value × zH)} (hr : zrt m = none) : zbd (zcf X m as h) f = zbV (zcf X m as h) fun h' => f none h' := by
  cases hz : zcf X m as h with
  | none => rfl
  | some x =>
    have hv := (zcf_ty hz).2.2.1 hr
    obtain ⟨y, h'⟩ := x
    dsimp only at hv
    subst hv
    rfl
theorem zcR {nm : String} {f : Option Value → zH → Option (Option Value × zH)} (hr : zrt m = some (.object nm)) : zbd (zcf X m as h) f = zbR (zcf X m as h) fun v h' => f (some (.ref v)) h' := by
  cases hz : zcf X m as h with
  | none => rfl
  | some x =>
    obtain ⟨v, hv⟩ := (zcf_ty hz).2.2.2 nm hr
    obtain ⟨y, h'⟩ := x
    dsimp only at hv
    subst hv
    rfl
theorem rn_vI (hd : decode (zb k) pc = .ok (.invokevirtual ix, 3)) (hi : zinv k (.invokevirtual ix) 3 (pc, ls, st, zPH, h) = some (m, as, rest, false)) (hk : zrk m as < r) (hr : zrt m = some .int ∨ zrt m = some .boolean) : zrn X r k pc ls st h = zbI (zcf X m as h) fun v h' => zrn X r k (pc + 3) ls (.int v :: rest) h' := (rn_c hd zsim_iv zrtn_iv hi hk).trans (zcI hr)
theorem rn_vL (hd : decode (zb k) pc = .ok (.invokevirtual ix, 3)) (hi : zinv k (.invokevirtual ix) 3 (pc, ls, st, zPH, h) = some (m, as, rest, false)) (hk : zrk m as < r) (hr : zrt m = some .long) : zrn X r k pc ls st h = zbL (zcf X m as h) fun v h' => zrn X r k (pc + 3) ls (.long v :: rest) h' := (rn_c hd zsim_iv zrtn_iv hi hk).trans (zcL hr)
theorem rn_vV (hd : decode (zb k) pc = .ok (.invokevirtual ix, 3)) (hi : zinv k (.invokevirtual ix) 3 (pc, ls, st, zPH, h) = some (m, as, rest, false)) (hk : zrk m as < r) (hr : zrt m = none) : zrn X r k pc ls st h = zbV (zcf X m as h) fun h' => zrn X r k (pc + 3) ls (rest) h' := (rn_c hd zsim_iv zrtn_iv hi hk).trans (zcV hr)
theorem rn_sI (hd : decode (zb k) pc = .ok (.invokestatic ix, 3)) (hb : zco0 zbiT (zo k) ix = none) (hi : zinv k (.invokestatic ix) 3 (pc, ls, st, zPH, h) = some (m, as, rest, false)) (hk : zrk m as < r) (hr : zrt m = some .int ∨ zrt m = some .boolean) : zrn X r k pc ls st h = zbI (zcf X m as h) fun v h' => zrn X r k (pc + 3) ls (.int v :: rest) h' := (rn_c hd (zsim_is hb) zrtn_is hi hk).trans (zcI hr)
theorem rn_sL (hd : decode (zb k) pc = .ok (.invokestatic ix, 3)) (hb : zco0 zbiT (zo k) ix = none) (hi : zinv k (.invokestatic ix) 3 (pc, ls, st, zPH, h) = some (m, as, rest, false)) (hk : zrk m as < r) (hr : zrt m = some .long) : zrn X r k pc ls st h = zbL (zcf X m as h) fun v h' => zrn X r k (pc + 3) ls (.long v :: rest) h' := (rn_c hd (zsim_is hb) zrtn_is hi hk).trans (zcL hr)
theorem rn_sV (hd : decode (zb k) pc = .ok (.invokestatic ix, 3)) (hb : zco0 zbiT (zo k) ix = none) (hi : zinv k (.invokestatic ix) 3 (pc, ls, st, zPH, h) = some (m, as, rest, false)) (hk : zrk m as < r) (hr : zrt m = none) : zrn X r k pc ls st h = zbV (zcf X m as h) fun h' => zrn X r k (pc + 3) ls (rest) h' := (rn_c hd (zsim_is hb) zrtn_is hi hk).trans (zcV hr)
end zrows
end
section
/-! facts for the block equations: decoded instructions, links, fields, constants (printed by wip/gen) -/
theorem zo2 {c : ByteArray} {p n : Nat} {i j : Instr} (h : decode c p = .ok (i, n)) (e : i = j) : decode c p = .ok (j, n) := e ▸ h
theorem zite {α : Type} {c : Prop} [Decidable c] {A B C : α} (h1 : c → A = B) (h2 : ¬ c → A = C) : A = if c then B else C := by
  by_cases h : c
  · rw [if_pos h]; exact h1 h
  · rw [if_neg h]; exact h2 h
def isH (a : Nat) : Prop := zcl 140 a = (2, 9) ∧ (zlk zPH.2 a 0 = a + 1 ∧ zlk zPH.2 a 1 = a + 2 ∧ zlk zPH.2 a 2 = a + 3 ∧ zlk zPH.2 a 3 = a + 4 ∧ zlk zPH.2 a 4 = a + 5) ∧ (zcl 140 (a + 1) = (0, 6) ∧ zcl 140 (a + 2) = (0, 6) ∧ zcl 140 (a + 3) = (0, 6) ∧ zcl 140 (a + 4) = (0, 6) ∧ zcl 140 (a + 5) = (0, 6))
theorem isH.c {a : Nat} (H : isH a) : zcl 140 a = (2, 9) := H.1
theorem isH.r0 {a : Nat} (H : isH a) : zlk zPH.2 a 0 = a + 1 := H.2.1.1
theorem isH.r1 {a : Nat} (H : isH a) : zlk zPH.2 a 1 = a + 2 := H.2.1.2.1
theorem isH.r2 {a : Nat} (H : isH a) : zlk zPH.2 a 2 = a + 3 := H.2.1.2.2.1
theorem isH.r3 {a : Nat} (H : isH a) : zlk zPH.2 a 3 = a + 4 := H.2.1.2.2.2.1
theorem isH.r4 {a : Nat} (H : isH a) : zlk zPH.2 a 4 = a + 5 := H.2.1.2.2.2.2
theorem isH.k0 {a : Nat} (H : isH a) : zcl 140 (a + 1) = (0, 6) := H.2.2.1
theorem isH.k1 {a : Nat} (H : isH a) : zcl 140 (a + 2) = (0, 6) := H.2.2.2.1
theorem isH.k2 {a : Nat} (H : isH a) : zcl 140 (a + 3) = (0, 6) := H.2.2.2.2.1
theorem isH.k3 {a : Nat} (H : isH a) : zcl 140 (a + 4) = (0, 6) := H.2.2.2.2.2.1
theorem isH.k4 {a : Nat} (H : isH a) : zcl 140 (a + 5) = (0, 6) := H.2.2.2.2.2.2
def zHills : List Nat := [2, 8, 15, 23, 29, 35, 41, 47, 53, 59, 65, 75, 81, 87, 93, 99, 105, 111, 117]
theorem isH_ok : ∀ a ∈ zHills, isH a := by unfold isH; decide +kernel
theorem hH_2 : isH 2 := isH_ok 2 (by decide)
theorem hH_8 : isH 8 := isH_ok 8 (by decide)
theorem hH_15 : isH 15 := isH_ok 15 (by decide)
theorem hH_23 : isH 23 := isH_ok 23 (by decide)
theorem hH_29 : isH 29 := isH_ok 29 (by decide)
theorem hH_35 : isH 35 := isH_ok 35 (by decide)
theorem hH_41 : isH 41 := isH_ok 41 (by decide)
theorem hH_47 : isH 47 := isH_ok 47 (by decide)
theorem hH_53 : isH 53 := isH_ok 53 (by decide)
theorem hH_59 : isH 59 := isH_ok 59 (by decide)
theorem hH_65 : isH 65 := isH_ok 65 (by decide)
theorem hH_75 : isH 75 := isH_ok 75 (by decide)
theorem hH_81 : isH 81 := isH_ok 81 (by decide)
theorem hH_87 : isH 87 := isH_ok 87 (by decide)
theorem hH_93 : isH 93 := isH_ok 93 (by decide)
theorem hH_99 : isH 99 := isH_ok 99 (by decide)
theorem hH_105 : isH 105 := isH_ok 105 (by decide)
theorem hH_111 : isH 111 := isH_ok 111 (by decide)
theorem hH_117 : isH 117 := isH_ok 117 (by decide)
theorem zc_1 : zcl 140 1 = (5, 10) := by decide +kernel
theorem zc_2 : zcl 140 2 = (2, 9) := by decide +kernel
theorem zc_3 : zcl 140 3 = (0, 6) := by decide +kernel
theorem zc_4 : zcl 140 4 = (0, 6) := by decide +kernel
theorem zc_5 : zcl 140 5 = (0, 6) := by decide +kernel
theorem zc_6 : zcl 140 6 = (0, 6) := by decide +kernel
theorem zc_7 : zcl 140 7 = (0, 6) := by decide +kernel
theorem zc_8 : zcl 140 8 = (2, 9) := by decide +kernel
theorem zc_9 : zcl 140 9 = (0, 6) := by decide +kernel
theorem zc_10 : zcl 140 10 = (0, 6) := by decide +kernel
theorem zc_11 : zcl 140 11 = (0, 6) := by decide +kernel
theorem zc_12 : zcl 140 12 = (0, 6) := by decide +kernel
theorem zc_13 : zcl 140 13 = (0, 6) := by decide +kernel
theorem zc_14 : zcl 140 14 = (1, 8) := by decide +kernel
theorem zc_15 : zcl 140 15 = (2, 9) := by decide +kernel
theorem zc_16 : zcl 140 16 = (0, 6) := by decide +kernel
theorem zc_17 : zcl 140 17 = (0, 6) := by decide +kernel
theorem zc_18 : zcl 140 18 = (0, 6) := by decide +kernel
theorem zc_19 : zcl 140 19 = (0, 6) := by decide +kernel
theorem zc_20 : zcl 140 20 = (0, 6) := by decide +kernel
theorem zc_21 : zcl 140 21 = (3, 3) := by decide +kernel
theorem zc_22 : zcl 140 22 = (1, 8) := by decide +kernel
theorem zc_23 : zcl 140 23 = (2, 9) := by decide +kernel
theorem zc_24 : zcl 140 24 = (0, 6) := by decide +kernel
theorem zc_25 : zcl 140 25 = (0, 6) := by decide +kernel
theorem zc_26 : zcl 140 26 = (0, 6) := by decide +kernel
theorem zc_27 : zcl 140 27 = (0, 6) := by decide +kernel
theorem zc_28 : zcl 140 28 = (0, 6) := by decide +kernel
theorem zc_29 : zcl 140 29 = (2, 9) := by decide +kernel
theorem zc_30 : zcl 140 30 = (0, 6) := by decide +kernel
theorem zc_31 : zcl 140 31 = (0, 6) := by decide +kernel
theorem zc_32 : zcl 140 32 = (0, 6) := by decide +kernel
theorem zc_33 : zcl 140 33 = (0, 6) := by decide +kernel
theorem zc_34 : zcl 140 34 = (0, 6) := by decide +kernel
theorem zc_35 : zcl 140 35 = (2, 9) := by decide +kernel
theorem zc_36 : zcl 140 36 = (0, 6) := by decide +kernel
theorem zc_37 : zcl 140 37 = (0, 6) := by decide +kernel
theorem zc_38 : zcl 140 38 = (0, 6) := by decide +kernel
theorem zc_39 : zcl 140 39 = (0, 6) := by decide +kernel
theorem zc_40 : zcl 140 40 = (0, 6) := by decide +kernel
theorem zc_41 : zcl 140 41 = (2, 9) := by decide +kernel
theorem zc_42 : zcl 140 42 = (0, 6) := by decide +kernel
theorem zc_43 : zcl 140 43 = (0, 6) := by decide +kernel
theorem zc_44 : zcl 140 44 = (0, 6) := by decide +kernel
theorem zc_45 : zcl 140 45 = (0, 6) := by decide +kernel
theorem zc_46 : zcl 140 46 = (0, 6) := by decide +kernel
theorem zc_47 : zcl 140 47 = (2, 9) := by decide +kernel
theorem zc_48 : zcl 140 48 = (0, 6) := by decide +kernel
theorem zc_49 : zcl 140 49 = (0, 6) := by decide +kernel
theorem zc_50 : zcl 140 50 = (0, 6) := by decide +kernel
theorem zc_51 : zcl 140 51 = (0, 6) := by decide +kernel
theorem zc_52 : zcl 140 52 = (0, 6) := by decide +kernel
theorem zc_53 : zcl 140 53 = (2, 9) := by decide +kernel
theorem zc_54 : zcl 140 54 = (0, 6) := by decide +kernel
theorem zc_55 : zcl 140 55 = (0, 6) := by decide +kernel
theorem zc_56 : zcl 140 56 = (0, 6) := by decide +kernel
theorem zc_57 : zcl 140 57 = (0, 6) := by decide +kernel
theorem zc_58 : zcl 140 58 = (0, 6) := by decide +kernel
theorem zc_59 : zcl 140 59 = (2, 9) := by decide +kernel
theorem zc_60 : zcl 140 60 = (0, 6) := by decide +kernel
theorem zc_61 : zcl 140 61 = (0, 6) := by decide +kernel
theorem zc_62 : zcl 140 62 = (0, 6) := by decide +kernel
theorem zc_63 : zcl 140 63 = (0, 6) := by decide +kernel
theorem zc_64 : zcl 140 64 = (0, 6) := by decide +kernel
theorem zc_65 : zcl 140 65 = (2, 9) := by decide +kernel
theorem zc_66 : zcl 140 66 = (0, 6) := by decide +kernel
theorem zc_67 : zcl 140 67 = (0, 6) := by decide +kernel
theorem zc_68 : zcl 140 68 = (0, 6) := by decide +kernel
theorem zc_69 : zcl 140 69 = (0, 6) := by decide +kernel
theorem zc_70 : zcl 140 70 = (0, 6) := by decide +kernel
theorem zc_71 : zcl 140 71 = (4, 2) := by decide +kernel
theorem zc_72 : zcl 140 72 = (0, 96) := by decide +kernel
theorem zc_73 : zcl 140 73 = (0, 12) := by decide +kernel
theorem zc_74 : zcl 140 74 = (0, 7) := by decide +kernel
theorem zc_75 : zcl 140 75 = (2, 9) := by decide +kernel
theorem zc_76 : zcl 140 76 = (0, 6) := by decide +kernel
theorem zc_77 : zcl 140 77 = (0, 6) := by decide +kernel
theorem zc_78 : zcl 140 78 = (0, 6) := by decide +kernel
theorem zc_79 : zcl 140 79 = (0, 6) := by decide +kernel
theorem zc_80 : zcl 140 80 = (0, 6) := by decide +kernel
theorem zc_81 : zcl 140 81 = (2, 9) := by decide +kernel
theorem zc_82 : zcl 140 82 = (0, 6) := by decide +kernel
theorem zc_83 : zcl 140 83 = (0, 6) := by decide +kernel
theorem zc_84 : zcl 140 84 = (0, 6) := by decide +kernel
theorem zc_85 : zcl 140 85 = (0, 6) := by decide +kernel
theorem zc_86 : zcl 140 86 = (0, 6) := by decide +kernel
theorem zc_87 : zcl 140 87 = (2, 9) := by decide +kernel
theorem zc_88 : zcl 140 88 = (0, 6) := by decide +kernel
theorem zc_89 : zcl 140 89 = (0, 6) := by decide +kernel
theorem zc_90 : zcl 140 90 = (0, 6) := by decide +kernel
theorem zc_91 : zcl 140 91 = (0, 6) := by decide +kernel
theorem zc_92 : zcl 140 92 = (0, 6) := by decide +kernel
theorem zc_93 : zcl 140 93 = (2, 9) := by decide +kernel
theorem zc_94 : zcl 140 94 = (0, 6) := by decide +kernel
theorem zc_95 : zcl 140 95 = (0, 6) := by decide +kernel
theorem zc_96 : zcl 140 96 = (0, 6) := by decide +kernel
theorem zc_97 : zcl 140 97 = (0, 6) := by decide +kernel
theorem zc_98 : zcl 140 98 = (0, 6) := by decide +kernel
theorem zc_99 : zcl 140 99 = (2, 9) := by decide +kernel
theorem zc_100 : zcl 140 100 = (0, 6) := by decide +kernel
theorem zc_101 : zcl 140 101 = (0, 6) := by decide +kernel
theorem zc_102 : zcl 140 102 = (0, 6) := by decide +kernel
theorem zc_103 : zcl 140 103 = (0, 6) := by decide +kernel
theorem zc_104 : zcl 140 104 = (0, 6) := by decide +kernel
theorem zc_105 : zcl 140 105 = (2, 9) := by decide +kernel
theorem zc_106 : zcl 140 106 = (0, 6) := by decide +kernel
theorem zc_107 : zcl 140 107 = (0, 6) := by decide +kernel
theorem zc_108 : zcl 140 108 = (0, 6) := by decide +kernel
theorem zc_109 : zcl 140 109 = (0, 6) := by decide +kernel
theorem zc_110 : zcl 140 110 = (0, 6) := by decide +kernel
theorem zc_111 : zcl 140 111 = (2, 9) := by decide +kernel
theorem zc_112 : zcl 140 112 = (0, 6) := by decide +kernel
theorem zc_113 : zcl 140 113 = (0, 6) := by decide +kernel
theorem zc_114 : zcl 140 114 = (0, 6) := by decide +kernel
theorem zc_115 : zcl 140 115 = (0, 6) := by decide +kernel
theorem zc_116 : zcl 140 116 = (0, 6) := by decide +kernel
theorem zc_117 : zcl 140 117 = (2, 9) := by decide +kernel
theorem zc_118 : zcl 140 118 = (0, 6) := by decide +kernel
theorem zc_119 : zcl 140 119 = (0, 6) := by decide +kernel
theorem zc_120 : zcl 140 120 = (0, 6) := by decide +kernel
theorem zc_121 : zcl 140 121 = (0, 6) := by decide +kernel
theorem zc_122 : zcl 140 122 = (0, 6) := by decide +kernel
theorem zc_123 : zcl 140 123 = (6, 35) := by decide +kernel
theorem zc_124 : zcl 140 124 = (0, 7) := by decide +kernel
theorem zc_125 : zcl 140 125 = (0, 7) := by decide +kernel
theorem zc_126 : zcl 140 126 = (0, 7) := by decide +kernel
theorem zc_127 : zcl 140 127 = (0, 7) := by decide +kernel
theorem zc_128 : zcl 140 128 = (0, 7) := by decide +kernel
theorem zc_129 : zcl 140 129 = (0, 7) := by decide +kernel
theorem zc_130 : zcl 140 130 = (0, 96) := by decide +kernel
theorem zc_131 : zcl 140 131 = (0, 49) := by decide +kernel
theorem zc_132 : zcl 140 132 = (0, 49) := by decide +kernel
theorem zc_133 : zcl 140 133 = (0, 196) := by decide +kernel
theorem zc_134 : zcl 140 134 = (0, 37) := by decide +kernel
theorem zc_135 : zcl 140 135 = (0, 37) := by decide +kernel
theorem zc_136 : zcl 140 136 = (0, 296) := by decide +kernel
theorem zc_137 : zcl 140 137 = (0, 37) := by decide +kernel
theorem zc_138 : zcl 140 138 = (0, 7) := by decide +kernel
theorem zc_139 : zcl 140 139 = (0, 12) := by decide +kernel
theorem zc_140 : zcl 140 140 = (0, 20) := by decide +kernel
theorem zr_1_0 : zlk zPH.2 1 0 = 2 := by decide +kernel
theorem zr_1_1 : zlk zPH.2 1 1 = 8 := by decide +kernel
theorem zr_1_2 : zlk zPH.2 1 2 = 14 := by decide +kernel
theorem zr_1_3 : zlk zPH.2 1 3 = 15 := by decide +kernel
theorem zr_1_5 : zlk zPH.2 1 5 = 21 := by decide +kernel
theorem zr_1_6 : zlk zPH.2 1 6 = 71 := by decide +kernel
theorem zr_1_7 : zlk zPH.2 1 7 = 73 := by decide +kernel
theorem zr_1_9 : zlk zPH.2 1 9 = 74 := by decide +kernel
theorem zr_14_0 : zlk zPH.2 14 0 = 75 := by decide +kernel
theorem zr_14_1 : zlk zPH.2 14 1 = 81 := by decide +kernel
theorem zr_14_2 : zlk zPH.2 14 2 = 87 := by decide +kernel
theorem zr_14_3 : zlk zPH.2 14 3 = 93 := by decide +kernel
theorem zr_14_4 : zlk zPH.2 14 4 = 99 := by decide +kernel
theorem zr_14_5 : zlk zPH.2 14 5 = 105 := by decide +kernel
theorem zr_14_6 : zlk zPH.2 14 6 = 111 := by decide +kernel
theorem zr_14_7 : zlk zPH.2 14 7 = 117 := by decide +kernel
theorem zr_21_0 : zlk zPH.2 21 0 = 22 := by decide +kernel
theorem zr_22_0 : zlk zPH.2 22 0 = 23 := by decide +kernel
theorem zr_22_1 : zlk zPH.2 22 1 = 29 := by decide +kernel
theorem zr_22_2 : zlk zPH.2 22 2 = 35 := by decide +kernel
theorem zr_22_3 : zlk zPH.2 22 3 = 41 := by decide +kernel
theorem zr_22_4 : zlk zPH.2 22 4 = 47 := by decide +kernel
theorem zr_22_5 : zlk zPH.2 22 5 = 53 := by decide +kernel
theorem zr_22_6 : zlk zPH.2 22 6 = 59 := by decide +kernel
theorem zr_22_7 : zlk zPH.2 22 7 = 65 := by decide +kernel
theorem zr_71_0 : zlk zPH.2 71 0 = 72 := by decide +kernel
theorem zr_123_1 : zlk zPH.2 123 1 = 124 := by decide +kernel
theorem zr_123_2 : zlk zPH.2 123 2 = 125 := by decide +kernel
theorem zr_123_3 : zlk zPH.2 123 3 = 126 := by decide +kernel
theorem zr_123_4 : zlk zPH.2 123 4 = 127 := by decide +kernel
theorem zr_123_5 : zlk zPH.2 123 5 = 128 := by decide +kernel
theorem zr_123_8 : zlk zPH.2 123 8 = 129 := by decide +kernel
theorem zr_123_11 : zlk zPH.2 123 11 = 130 := by decide +kernel
theorem zr_123_16 : zlk zPH.2 123 16 = 131 := by decide +kernel
theorem zr_123_17 : zlk zPH.2 123 17 = 132 := by decide +kernel
theorem zr_123_18 : zlk zPH.2 123 18 = 133 := by decide +kernel
theorem zr_123_19 : zlk zPH.2 123 19 = 134 := by decide +kernel
theorem zr_123_20 : zlk zPH.2 123 20 = 135 := by decide +kernel
theorem zr_123_25 : zlk zPH.2 123 25 = 136 := by decide +kernel
theorem zr_123_26 : zlk zPH.2 123 26 = 137 := by decide +kernel
theorem zr_123_28 : zlk zPH.2 123 28 = 138 := by decide +kernel
theorem zr_123_31 : zlk zPH.2 123 31 = 139 := by decide +kernel
theorem zr_123_33 : zlk zPH.2 123 33 = 140 := by decide +kernel
theorem f_0_9 : zfd 0 9 = (0, 0, 2) := by decide +kernel
theorem f_0_15 : zfd 0 15 = (0, 1, 2) := by decide +kernel
theorem f_0_18 : zfd 0 18 = (0, 2, 2) := by decide +kernel
theorem f_0_21 : zfd 0 21 = (0, 3, 2) := by decide +kernel
theorem f_0_24 : zfd 0 24 = (0, 4, 2) := by decide +kernel
theorem f_0_27 : zfd 0 27 = (0, 5, 0) := by decide +kernel
theorem f_0_31 : zfd 0 31 = (0, 6, 0) := by decide +kernel
theorem f_0_34 : zfd 0 34 = (0, 7, 0) := by decide +kernel
theorem f_0_37 : zfd 0 37 = (0, 8, 0) := by decide +kernel
theorem f_1_11 : zfd 1 11 = (1, 0, 2) := by decide +kernel
theorem f_1_17 : zfd 1 17 = (1, 1, 0) := by decide +kernel
theorem f_1_21 : zfd 1 21 = (1, 2, 0) := by decide +kernel
theorem f_2_9 : zfd 2 9 = (2, 0, 2) := by decide +kernel
theorem f_2_15 : zfd 2 15 = (2, 1, 0) := by decide +kernel
theorem f_2_67 : zfd 2 67 = (0, 5, 0) := by decide +kernel
theorem f_3_10 : zfd 3 10 = (3, 0, 2) := by decide +kernel
theorem f_3_16 : zfd 3 16 = (3, 1, 2) := by decide +kernel
theorem f_3_19 : zfd 3 19 = (3, 2, 2) := by decide +kernel
theorem f_3_23 : zfd 3 23 = (3, 3, 2) := by decide +kernel
theorem f_3_26 : zfd 3 26 = (3, 4, 1) := by decide +kernel
theorem f_3_33 : zfd 3 33 = (3, 5, 2) := by decide +kernel
theorem f_3_40 : zfd 3 40 = (3, 6, 2) := by decide +kernel
theorem f_3_44 : zfd 3 44 = (3, 7, 2) := by decide +kernel
theorem f_3_48 : zfd 3 48 = (3, 8, 0) := by decide +kernel
theorem f_3_52 : zfd 3 52 = (3, 9, 2) := by decide +kernel
theorem f_3_59 : zfd 3 59 = (2, 1, 0) := by decide +kernel
theorem f_3_112 : zfd 3 112 = (0, 5, 0) := by decide +kernel
theorem f_3_146 : zfd 3 146 = (1, 1, 0) := by decide +kernel
theorem f_3_174 : zfd 3 174 = (0, 8, 0) := by decide +kernel
theorem f_3_245 : zfd 3 245 = (0, 7, 0) := by decide +kernel
theorem f_3_266 : zfd 3 266 = (0, 6, 0) := by decide +kernel
theorem f_4_7 : zfd 4 7 = (4, 1, 2) := by decide +kernel
theorem f_4_13 : zfd 4 13 = (4, 2, 2) := by decide +kernel
theorem f_4_16 : zfd 4 16 = (4, 3, 2) := by decide +kernel
theorem f_4_19 : zfd 4 19 = (4, 4, 2) := by decide +kernel
theorem f_4_22 : zfd 4 22 = (4, 5, 2) := by decide +kernel
theorem f_4_25 : zfd 4 25 = (4, 8, 2) := by decide +kernel
theorem f_4_28 : zfd 4 28 = (4, 11, 2) := by decide +kernel
theorem f_4_31 : zfd 4 31 = (4, 16, 2) := by decide +kernel
theorem f_4_34 : zfd 4 34 = (4, 17, 2) := by decide +kernel
theorem f_4_37 : zfd 4 37 = (4, 18, 2) := by decide +kernel
theorem f_4_40 : zfd 4 40 = (4, 19, 2) := by decide +kernel
theorem f_4_43 : zfd 4 43 = (4, 20, 2) := by decide +kernel
theorem f_4_46 : zfd 4 46 = (4, 25, 2) := by decide +kernel
theorem f_4_49 : zfd 4 49 = (4, 26, 2) := by decide +kernel
theorem f_4_52 : zfd 4 52 = (4, 28, 2) := by decide +kernel
theorem f_4_55 : zfd 4 55 = (4, 31, 2) := by decide +kernel
theorem f_4_58 : zfd 4 58 = (4, 33, 2) := by decide +kernel
theorem f_4_61 : zfd 4 61 = (4, 7, 0) := by decide +kernel
theorem f_4_65 : zfd 4 65 = (4, 0, 0) := by decide +kernel
theorem f_4_100 : zfd 4 100 = (4, 9, 0) := by decide +kernel
theorem f_4_107 : zfd 4 107 = (4, 6, 0) := by decide +kernel
theorem f_4_110 : zfd 4 110 = (4, 10, 0) := by decide +kernel
theorem f_4_126 : zfd 4 126 = (4, 12, 0) := by decide +kernel
theorem f_4_129 : zfd 4 129 = (4, 13, 0) := by decide +kernel
theorem f_4_132 : zfd 4 132 = (4, 14, 1) := by decide +kernel
theorem f_4_147 : zfd 4 147 = (4, 15, 0) := by decide +kernel
theorem f_4_177 : zfd 4 177 = (4, 27, 0) := by decide +kernel
theorem f_4_180 : zfd 4 180 = (4, 23, 1) := by decide +kernel
theorem f_4_183 : zfd 4 183 = (4, 24, 3) := by decide +kernel
theorem f_4_186 : zfd 4 186 = (4, 22, 0) := by decide +kernel
theorem f_4_196 : zfd 4 196 = (4, 21, 1) := by decide +kernel
theorem f_4_225 : zfd 4 225 = (4, 30, 0) := by decide +kernel
theorem f_4_228 : zfd 4 228 = (4, 29, 0) := by decide +kernel
theorem f_4_237 : zfd 4 237 = (4, 32, 0) := by decide +kernel
theorem f_4_266 : zfd 4 266 = (4, 34, 0) := by decide +kernel
set_option maxRecDepth 100000 in
theorem l_0_40 : zco0 zmtT 0 40 = some (3, m_X_at) := rfl
theorem nb_0_40 : zco0 zbiT 0 40 = none := by decide +kernel
set_option maxRecDepth 100000 in
theorem l_0_44 : zco0 zmtT 0 44 = some (3, m_X_put) := rfl
theorem nb_0_44 : zco0 zbiT 0 44 = none := by decide +kernel
set_option maxRecDepth 100000 in
theorem l_0_48 : zco0 zmtT 0 48 = some (3, m_X_bitOf) := rfl
theorem nb_0_48 : zco0 zbiT 0 48 = none := by decide +kernel
set_option maxRecDepth 100000 in
theorem l_0_52 : zco0 zmtT 0 52 = some (3, m_X_reach) := rfl
theorem nb_0_52 : zco0 zbiT 0 52 = none := by decide +kernel
set_option maxRecDepth 100000 in
theorem l_0_56 : zco0 zmtT 0 56 = some (3, m_X_depth) := rfl
theorem nb_0_56 : zco0 zbiT 0 56 = none := by decide +kernel
set_option maxRecDepth 100000 in
theorem l_0_59 : zco0 zmtT 0 59 = some (0, m_H_whoIsAt) := rfl
set_option maxRecDepth 100000 in
theorem l_0_62 : zco0 zmtT 0 62 = some (3, m_X_rowOf) := rfl
theorem nb_0_62 : zco0 zbiT 0 62 = none := by decide +kernel
set_option maxRecDepth 100000 in
theorem l_0_70 : zco0 zmtT 0 70 = some (3, m_X_columnOf) := rfl
theorem nb_0_70 : zco0 zbiT 0 70 = none := by decide +kernel
set_option maxRecDepth 100000 in
theorem l_0_73 : zco0 zmtT 0 73 = some (3, m_X_cellBeside) := rfl
theorem nb_0_73 : zco0 zbiT 0 73 = none := by decide +kernel
set_option maxRecDepth 100000 in
theorem l_0_76 : zco0 zmtT 0 76 = some (0, m_H_isFree) := rfl
set_option maxRecDepth 100000 in
theorem l_0_80 : zco0 zmtT 0 80 = some (0, m_H_reachOf) := rfl
set_option maxRecDepth 100000 in
theorem l_0_83 : zco0 zmtT 0 83 = some (0, m_H_nextTo) := rfl
set_option maxRecDepth 100000 in
theorem l_0_87 : zco0 zmtT 0 87 = some (3, m_X_turned) := rfl
theorem nb_0_87 : zco0 zbiT 0 87 = none := by decide +kernel
set_option maxRecDepth 100000 in
theorem l_0_90 : zco0 zmtT 0 90 = some (0, m_H_depthOf) := rfl
set_option maxRecDepth 100000 in
theorem l_0_93 : zco0 zmtT 0 93 = some (0, m_H_ahead) := rfl
set_option maxRecDepth 100000 in
theorem l_0_96 : zco0 zmtT 0 96 = some (0, m_H_inLens) := rfl
set_option maxRecDepth 100000 in
theorem l_0_99 : zco0 zmtT 0 99 = some (0, m_H_nightWithout) := rfl
set_option maxRecDepth 100000 in
theorem l_0_106 : zco0 zmtT 0 106 = some (0, m_H_stirs) := rfl
set_option maxRecDepth 100000 in
theorem l_0_110 : zco0 zmtT 0 110 = some (0, m_H_turnsBy) := rfl
set_option maxRecDepth 100000 in
theorem l_0_113 : zco0 zmtT 0 113 = some (0, m_H_stepsTo) := rfl
set_option maxRecDepth 100000 in
theorem l_1_24 : zco0 zmtT 1 24 = some (5, m_H_init) := rfl
set_option maxRecDepth 100000 in
theorem l_1_25 : zco0 zmtT 1 25 = some (0, m_P_placeAt) := rfl
set_option maxRecDepth 100000 in
theorem l_1_29 : zco0 zmtT 1 29 = some (1, m_H_become) := rfl
set_option maxRecDepth 100000 in
theorem l_2_19 : zco0 zmtT 2 19 = some (3, m_X_put) := rfl
theorem nb_2_19 : zco0 zbiT 2 19 = none := by decide +kernel
set_option maxRecDepth 100000 in
theorem l_2_23 : zco0 zmtT 2 23 = some (3, m_X_at) := rfl
theorem nb_2_23 : zco0 zbiT 2 23 = none := by decide +kernel
set_option maxRecDepth 100000 in
theorem l_2_27 : zco0 zmtT 2 27 = some (2, m_T_digitsBehind) := rfl
theorem nb_2_27 : zco0 zbiT 2 27 = none := by decide +kernel
set_option maxRecDepth 100000 in
theorem l_2_31 : zco0 zmtT 2 31 = some (0, m_T_digit) := rfl
set_option maxRecDepth 100000 in
theorem l_2_34 : zco0 zmtT 2 34 = some (0, m_T_number) := rfl
set_option maxRecDepth 100000 in
theorem l_2_37 : zco0 zmtT 2 37 = some (2, m_T_joins) := rfl
theorem nb_2_37 : zco0 zbiT 2 37 = none := by decide +kernel
set_option maxRecDepth 100000 in
theorem l_2_41 : zco0 zmtT 2 41 = some (2, m_T_facesSo) := rfl
theorem nb_2_41 : zco0 zbiT 2 41 = none := by decide +kernel
set_option maxRecDepth 100000 in
theorem l_2_45 : zco0 zmtT 2 45 = some (2, m_T_changesCell) := rfl
theorem nb_2_45 : zco0 zbiT 2 45 = none := by decide +kernel
set_option maxRecDepth 100000 in
theorem l_2_48 : zco0 zmtT 2 48 = some (1, m_H_hasRoomFor) := rfl
set_option maxRecDepth 100000 in
theorem l_2_54 : zco0 zmtT 2 54 = some (1, m_H_pass) := rfl
set_option maxRecDepth 100000 in
theorem l_2_58 : zco0 zmtT 2 58 = some (3, m_X_isKind) := rfl
theorem nb_2_58 : zco0 zbiT 2 58 = none := by decide +kernel
set_option maxRecDepth 100000 in
theorem l_2_61 : zco0 zmtT 2 61 = some (3, m_X_isCell) := rfl
theorem nb_2_61 : zco0 zbiT 2 61 = none := by decide +kernel
set_option maxRecDepth 100000 in
theorem l_2_64 : zco0 zmtT 2 64 = some (3, m_X_isWay) := rfl
theorem nb_2_64 : zco0 zbiT 2 64 = none := by decide +kernel
set_option maxRecDepth 100000 in
theorem l_2_68 : zco0 zmtT 2 68 = some (1, m_H_isFree) := rfl
set_option maxRecDepth 100000 in
theorem l_2_71 : zco0 zmtT 2 71 = some (1, m_H_join) := rfl
set_option maxRecDepth 100000 in
theorem l_2_75 : zco0 zmtT 2 75 = some (1, m_H_has) := rfl
set_option maxRecDepth 100000 in
theorem l_2_78 : zco0 zmtT 2 78 = some (1, m_H_face) := rfl
set_option maxRecDepth 100000 in
theorem l_2_82 : zco0 zmtT 2 82 = some (1, m_H_place) := rfl
set_option maxRecDepth 100000 in
theorem l_3_9 : zco0 zmtT 3 9 = some (5, m_H_init) := rfl
set_option maxRecDepth 100000 in
theorem l_3_32 : zco0 zmtT 3 32 = some (5, m_P_init) := rfl
set_option maxRecDepth 100000 in
theorem l_3_39 : zco0 zmtT 3 39 = some (5, m_T_init) := rfl
set_option maxRecDepth 100000 in
theorem l_3_55 : zco0 zmtT 3 55 = some (0, m_X_refuse) := rfl
set_option maxRecDepth 100000 in
theorem l_3_62 : zco0 zmtT 3 62 = some (1, m_T_append) := rfl
set_option maxRecDepth 100000 in
theorem l_3_65 : zco0 zmtT 3 65 = some (1, m_T_wrongPlace) := rfl
set_option maxRecDepth 100000 in
theorem l_3_69 : zco0 zmtT 3 69 = some (1, m_H_become) := rfl
set_option maxRecDepth 100000 in
theorem l_3_73 : zco0 zmtT 3 73 = some (1, m_T_beginsStatement) := rfl
set_option maxRecDepth 100000 in
theorem l_3_77 : zco0 zmtT 3 77 = some (1, m_T_comesTo) := rfl
set_option maxRecDepth 100000 in
theorem l_3_81 : zco0 zmtT 3 81 = some (1, m_T_forget) := rfl
set_option maxRecDepth 100000 in
theorem l_3_84 : zco0 zmtT 3 84 = some (1, m_P_forget) := rfl
set_option maxRecDepth 100000 in
theorem l_3_85 : zco0 zmtT 3 85 = some (1, m_H_has) := rfl
set_option maxRecDepth 100000 in
theorem l_3_88 : zco0 zmtT 3 88 = some (1, m_H_kindOf) := rfl
set_option maxRecDepth 100000 in
theorem l_3_91 : zco0 zmtT 3 91 = some (1, m_H_figureOf) := rfl
set_option maxRecDepth 100000 in
theorem l_3_94 : zco0 zmtT 3 94 = some (1, m_H_cellOf) := rfl
set_option maxRecDepth 100000 in
theorem l_3_97 : zco0 zmtT 3 97 = some (1, m_H_facesOf) := rfl
set_option maxRecDepth 100000 in
theorem l_3_100 : zco0 zmtT 3 100 = some (1, m_H_startsOf) := rfl
set_option maxRecDepth 100000 in
theorem l_3_103 : zco0 zmtT 3 103 = some (1, m_H_reachOf) := rfl
set_option maxRecDepth 100000 in
theorem l_3_106 : zco0 zmtT 3 106 = some (1, m_H_depthOf) := rfl
set_option maxRecDepth 100000 in
theorem l_3_109 : zco0 zmtT 3 109 = some (2, m_X_isKind) := rfl
theorem nb_3_109 : zco0 zbiT 3 109 = none := by decide +kernel
set_option maxRecDepth 100000 in
theorem l_3_113 : zco0 zmtT 3 113 = some (2, m_X_isCell) := rfl
theorem nb_3_113 : zco0 zbiT 3 113 = none := by decide +kernel
set_option maxRecDepth 100000 in
theorem l_3_116 : zco0 zmtT 3 116 = some (2, m_X_isWay) := rfl
theorem nb_3_116 : zco0 zbiT 3 116 = none := by decide +kernel
set_option maxRecDepth 100000 in
theorem l_3_119 : zco0 zmtT 3 119 = some (1, m_H_isFree) := rfl
set_option maxRecDepth 100000 in
theorem l_3_122 : zco0 zmtT 3 122 = some (1, m_H_join) := rfl
set_option maxRecDepth 100000 in
theorem l_3_126 : zco0 zmtT 3 126 = some (1, m_P_keep) := rfl
set_option maxRecDepth 100000 in
theorem l_3_129 : zco0 zmtT 3 129 = some (1, m_H_face) := rfl
set_option maxRecDepth 100000 in
theorem l_3_133 : zco0 zmtT 3 133 = some (1, m_H_place) := rfl
set_option maxRecDepth 100000 in
theorem l_3_136 : zco0 zmtT 3 136 = some (1, m_H_hasRoomFor) := rfl
set_option maxRecDepth 100000 in
theorem l_3_139 : zco0 zmtT 3 139 = some (1, m_H_pass) := rfl
set_option maxRecDepth 100000 in
theorem l_3_143 : zco0 zmtT 3 143 = some (1, m_H_startsTogether) := rfl
set_option maxRecDepth 100000 in
theorem l_3_147 : zco0 zmtT 3 147 = some (1, m_P_giveBack) := rfl
set_option maxRecDepth 100000 in
theorem l_3_151 : zco0 zmtT 3 151 = some (0, m_X_wrongNights) := rfl
set_option maxRecDepth 100000 in
theorem l_3_155 : zco0 zmtT 3 155 = some (0, m_X_lookAhead) := rfl
set_option maxRecDepth 100000 in
theorem l_3_158 : zco0 zmtT 3 158 = some (1, m_H_ahead) := rfl
set_option maxRecDepth 100000 in
theorem l_3_161 : zco0 zmtT 3 161 = some (1, m_H_inLens) := rfl
set_option maxRecDepth 100000 in
theorem l_3_164 : zco0 zmtT 3 164 = some (1, m_H_watchers) := rfl
set_option maxRecDepth 100000 in
theorem l_3_167 : zco0 zmtT 3 167 = some (0, m_X_wrongWhat) := rfl
set_option maxRecDepth 100000 in
theorem l_3_171 : zco0 zmtT 3 171 = some (1, m_H_nightWithout) := rfl
set_option maxRecDepth 100000 in
theorem l_3_177 : zco0 zmtT 3 177 = some (2, m_X_bitOf) := rfl
theorem nb_3_177 : zco0 zbiT 3 177 = none := by decide +kernel
set_option maxRecDepth 100000 in
theorem l_3_180 : zco0 zmtT 3 180 = some (1, m_H_everybody) := rfl
set_option maxRecDepth 100000 in
theorem l_3_183 : zco0 zmtT 3 183 = some (1, m_H_chainOf) := rfl
set_option maxRecDepth 100000 in
theorem l_3_186 : zco0 zmtT 3 186 = some (1, m_H_seenBy) := rfl
set_option maxRecDepth 100000 in
theorem l_3_189 : zco0 zmtT 3 189 = some (1, m_H_seesAllWays) := rfl
set_option maxRecDepth 100000 in
theorem l_3_192 : zco0 zmtT 3 192 = some (1, m_H_facesToSeeUnseen) := rfl
set_option maxRecDepth 100000 in
theorem l_3_195 : zco0 zmtT 3 195 = some (1, m_H_beOfKind) := rfl
set_option maxRecDepth 100000 in
theorem l_3_198 : zco0 zmtT 3 198 = some (1, m_H_beOfFigure) := rfl
set_option maxRecDepth 100000 in
theorem l_3_201 : zco0 zmtT 3 201 = some (0, m_X_turnsAsTold) := rfl
set_option maxRecDepth 100000 in
theorem l_3_204 : zco0 zmtT 3 204 = some (1, m_H_cellOfStep) := rfl
set_option maxRecDepth 100000 in
theorem l_3_207 : zco0 zmtT 3 207 = some (2, m_J_bitCount) := rfl
theorem nb_3_207 : zco0 zbiT 3 207 = none := by decide +kernel
set_option maxRecDepth 100000 in
theorem l_3_212 : zco0 zmtT 3 212 = some (0, m_X_areTwo) := rfl
set_option maxRecDepth 100000 in
theorem l_3_216 : zco0 zmtT 3 216 = some (0, m_X_stepsSeenByFaces) := rfl
set_option maxRecDepth 100000 in
theorem l_3_219 : zco0 zmtT 3 219 = some (2, m_X_neitherHasBetter) := rfl
theorem nb_3_219 : zco0 zbiT 3 219 = none := by decide +kernel
set_option maxRecDepth 100000 in
theorem l_3_225 : zco0 zmtT 3 225 = some (2, m_X_waysToFace) := rfl
theorem nb_3_225 : zco0 zbiT 3 225 = none := by decide +kernel
set_option maxRecDepth 100000 in
theorem l_3_229 : zco0 zmtT 3 229 = some (2, m_X_commonDivisor) := rfl
theorem nb_3_229 : zco0 zbiT 3 229 = none := by decide +kernel
set_option maxRecDepth 100000 in
theorem l_3_233 : zco0 zmtT 3 233 = some (1, m_H_cellsApart) := rfl
set_option maxRecDepth 100000 in
theorem l_3_236 : zco0 zmtT 3 236 = some (2, m_X_rowOf) := rfl
theorem nb_3_236 : zco0 zbiT 3 236 = none := by decide +kernel
set_option maxRecDepth 100000 in
theorem l_3_239 : zco0 zmtT 3 239 = some (2, m_X_columnOf) := rfl
theorem nb_3_239 : zco0 zbiT 3 239 = none := by decide +kernel
set_option maxRecDepth 100000 in
theorem l_3_242 : zco0 zmtT 3 242 = some (1, m_H_nextTo) := rfl
set_option maxRecDepth 100000 in
theorem l_3_248 : zco0 zmtT 3 248 = some (2, m_X_put) := rfl
theorem nb_3_248 : zco0 zbiT 3 248 = none := by decide +kernel
set_option maxRecDepth 100000 in
theorem l_3_252 : zco0 zmtT 3 252 = some (2, m_X_at) := rfl
theorem nb_3_252 : zco0 zbiT 3 252 = none := by decide +kernel
set_option maxRecDepth 100000 in
theorem l_3_256 : zco0 zmtT 3 256 = some (2, m_X_nextSeed) := rfl
theorem nb_3_256 : zco0 zbiT 3 256 = none := by decide +kernel
set_option maxRecDepth 100000 in
theorem l_3_259 : zco0 zmtT 3 259 = some (2, m_X_drawOf) := rfl
theorem nb_3_259 : zco0 zbiT 3 259 = none := by decide +kernel
set_option maxRecDepth 100000 in
theorem l_3_262 : zco0 zmtT 3 262 = some (1, m_H_howManySee) := rfl
set_option maxRecDepth 100000 in
theorem l_3_269 : zco0 zmtT 3 269 = some (2, m_X_pairBit) := rfl
theorem nb_3_269 : zco0 zbiT 3 269 = none := by decide +kernel
set_option maxRecDepth 100000 in
theorem l_4_68 : zco0 zmtT 4 68 = some (2, m_M_in) := rfl
theorem nb_4_68 : zco0 zbiT 4 68 = none := by decide +kernel
set_option maxRecDepth 100000 in
theorem l_4_72 : zco0 zmtT 4 72 = some (0, m_M_isOne) := rfl
set_option maxRecDepth 100000 in
theorem l_4_80 : zco0 zmtT 4 80 = some (2, m_M_straight) := rfl
theorem nb_4_80 : zco0 zbiT 4 80 = none := by decide +kernel
set_option maxRecDepth 100000 in
theorem l_4_84 : zco0 zmtT 4 84 = some (0, m_M_oneIn) := rfl
set_option maxRecDepth 100000 in
theorem l_4_88 : zco0 zmtT 4 88 = some (0, m_M_reachOf) := rfl
set_option maxRecDepth 100000 in
theorem l_4_91 : zco0 zmtT 4 91 = some (0, m_M_nextFrom) := rfl
set_option maxRecDepth 100000 in
theorem l_4_94 : zco0 zmtT 4 94 = some (0, m_M_depthOf) := rfl
set_option maxRecDepth 100000 in
theorem l_4_97 : zco0 zmtT 4 97 = some (0, m_M_aheadOf) := rfl
set_option maxRecDepth 100000 in
theorem l_4_103 : zco0 zmtT 4 103 = some (0, m_M_stepTo) := rfl
set_option maxRecDepth 100000 in
theorem l_4_113 : zco0 zmtT 4 113 = some (0, m_M_lensOf) := rfl
set_option maxRecDepth 100000 in
theorem l_4_116 : zco0 zmtT 4 116 = some (0, m_M_goesBy) := rfl
set_option maxRecDepth 100000 in
theorem l_4_119 : zco0 zmtT 4 119 = some (0, m_M_nightBy) := rfl
set_option maxRecDepth 100000 in
theorem l_4_123 : zco0 zmtT 4 123 = some (0, m_M_refuse) := rfl
set_option maxRecDepth 100000 in
theorem l_4_136 : zco0 zmtT 4 136 = some (0, m_M_here) := rfl
set_option maxRecDepth 100000 in
theorem l_4_144 : zco0 zmtT 4 144 = some (0, m_M_readDigits) := rfl
set_option maxRecDepth 100000 in
theorem l_4_150 : zco0 zmtT 4 150 = some (2, m_M_isLetter) := rfl
theorem nb_4_150 : zco0 zbiT 4 150 = none := by decide +kernel
set_option maxRecDepth 100000 in
theorem l_4_153 : zco0 zmtT 4 153 = some (0, m_M_readNumbers) := rfl
set_option maxRecDepth 100000 in
theorem l_4_156 : zco0 zmtT 4 156 = some (0, m_M_oneComes) := rfl
set_option maxRecDepth 100000 in
theorem l_4_162 : zco0 zmtT 4 162 = some (0, m_M_goNights) := rfl
set_option maxRecDepth 100000 in
theorem l_4_165 : zco0 zmtT 4 165 = some (0, m_M_readStatement) := rfl
set_option maxRecDepth 100000 in
theorem l_4_168 : zco0 zmtT 4 168 = some (0, m_M_think) := rfl
set_option maxRecDepth 100000 in
theorem l_4_171 : zco0 zmtT 4 171 = some (0, m_M_comesTold) := rfl
set_option maxRecDepth 100000 in
theorem l_4_174 : zco0 zmtT 4 174 = some (0, m_M_again) := rfl
set_option maxRecDepth 100000 in
theorem l_4_189 : zco0 zmtT 4 189 = some (0, m_M_carry) := rfl
set_option maxRecDepth 100000 in
theorem l_4_192 : zco0 zmtT 4 192 = some (0, m_M_carryAll) := rfl
set_option maxRecDepth 100000 in
theorem l_4_201 : zco0 zmtT 4 201 = some (2, m_M_wrongNumber) := rfl
theorem nb_4_201 : zco0 zbiT 4 201 = none := by decide +kernel
set_option maxRecDepth 100000 in
theorem l_4_204 : zco0 zmtT 4 204 = some (2, m_M_isCell) := rfl
theorem nb_4_204 : zco0 zbiT 4 204 = none := by decide +kernel
set_option maxRecDepth 100000 in
theorem l_4_209 : zco0 zmtT 4 209 = some (0, m_M_keepTurn) := rfl
set_option maxRecDepth 100000 in
theorem l_4_212 : zco0 zmtT 4 212 = some (0, m_M_allOfStarts) := rfl
set_option maxRecDepth 100000 in
theorem l_4_215 : zco0 zmtT 4 215 = some (2, m_M_wrongBit) := rfl
theorem nb_4_215 : zco0 zbiT 4 215 = none := by decide +kernel
set_option maxRecDepth 100000 in
theorem l_4_218 : zco0 zmtT 4 218 = some (0, m_M_watchersOf) := rfl
set_option maxRecDepth 100000 in
theorem l_4_221 : zco0 zmtT 4 221 = some (2, m_M_hasBit) := rfl
theorem nb_4_221 : zco0 zbiT 4 221 = none := by decide +kernel
set_option maxRecDepth 100000 in
theorem l_4_231 : zco0 zmtT 4 231 = some (2, m_M_onesOf) := rfl
theorem nb_4_231 : zco0 zbiT 4 231 = none := by decide +kernel
set_option maxRecDepth 100000 in
theorem l_4_234 : zco0 zmtT 4 234 = some (0, m_M_chainFrom) := rfl
set_option maxRecDepth 100000 in
theorem l_4_240 : zco0 zmtT 4 240 = some (0, m_M_isRow) := rfl
set_option maxRecDepth 100000 in
theorem l_4_243 : zco0 zmtT 4 243 = some (0, m_M_stepFrom) := rfl
set_option maxRecDepth 100000 in
theorem l_4_247 : zco0 zmtT 4 247 = some (0, m_M_areTwo) := rfl
set_option maxRecDepth 100000 in
theorem l_4_250 : zco0 zmtT 4 250 = some (0, m_M_areResting) := rfl
set_option maxRecDepth 100000 in
theorem l_4_253 : zco0 zmtT 4 253 = some (2, m_M_divisor) := rfl
theorem nb_4_253 : zco0 zbiT 4 253 = none := by decide +kernel
set_option maxRecDepth 100000 in
theorem l_4_259 : zco0 zmtT 4 259 = some (2, m_M_partOf) := rfl
theorem nb_4_259 : zco0 zbiT 4 259 = none := by decide +kernel
set_option maxRecDepth 100000 in
theorem l_4_263 : zco0 zmtT 4 263 = some (2, m_M_apart) := rfl
theorem nb_4_263 : zco0 zbiT 4 263 = none := by decide +kernel
set_option maxRecDepth 100000 in
theorem l_4_272 : zco0 zmtT 4 272 = some (0, m_M_drawBelow) := rfl
set_option maxRecDepth 100000 in
theorem l_5_9 : zco0 zmtT 5 9 = some (4, m_X_init) := rfl
set_option maxRecDepth 100000 in
theorem l_5_12 : zco0 zmtT 5 12 = some (4, m_M_init) := rfl
set_option maxRecDepth 100000 in
theorem l_5_13 : zco0 zmtT 5 13 = some (0, m_X_feed) := rfl
set_option maxRecDepth 100000 in
theorem l_5_17 : zco0 zmtT 5 17 = some (0, m_M_feed) := rfl
set_option maxRecDepth 100000 in
theorem l_5_18 : zco0 zmtT 5 18 = some (0, m_X_hill) := rfl
set_option maxRecDepth 100000 in
theorem l_5_22 : zco0 zmtT 5 22 = some (0, m_M_hill) := rfl
set_option maxRecDepth 100000 in
theorem l_5_23 : zco0 zmtT 5 23 = some (0, m_X_personOf) := rfl
set_option maxRecDepth 100000 in
theorem l_5_27 : zco0 zmtT 5 27 = some (0, m_M_personOf) := rfl
set_option maxRecDepth 100000 in
theorem l_5_28 : zco0 zmtT 5 28 = some (0, m_X_person) := rfl
set_option maxRecDepth 100000 in
theorem l_5_32 : zco0 zmtT 5 32 = some (0, m_M_person) := rfl
set_option maxRecDepth 100000 in
theorem l_5_33 : zco0 zmtT 5 33 = some (0, m_X_turns) := rfl
set_option maxRecDepth 100000 in
theorem l_5_36 : zco0 zmtT 5 36 = some (0, m_M_turns) := rfl
set_option maxRecDepth 100000 in
theorem l_5_37 : zco0 zmtT 5 37 = some (0, m_X_stands) := rfl
set_option maxRecDepth 100000 in
theorem l_5_40 : zco0 zmtT 5 40 = some (0, m_M_stands) := rfl
set_option maxRecDepth 100000 in
theorem l_5_41 : zco0 zmtT 5 41 = some (0, m_X_nights) := rfl
set_option maxRecDepth 100000 in
theorem l_5_44 : zco0 zmtT 5 44 = some (0, m_M_nights) := rfl
set_option maxRecDepth 100000 in
theorem l_5_45 : zco0 zmtT 5 45 = some (0, m_X_back) := rfl
set_option maxRecDepth 100000 in
theorem l_5_48 : zco0 zmtT 5 48 = some (0, m_M_back) := rfl
set_option maxRecDepth 100000 in
theorem l_5_49 : zco0 zmtT 5 49 = some (0, m_X_behind) := rfl
set_option maxRecDepth 100000 in
theorem l_5_53 : zco0 zmtT 5 53 = some (0, m_M_behind) := rfl
set_option maxRecDepth 100000 in
theorem l_5_54 : zco0 zmtT 5 54 = some (0, m_X_allStarts) := rfl
set_option maxRecDepth 100000 in
theorem l_5_57 : zco0 zmtT 5 57 = some (0, m_M_allStarts) := rfl
set_option maxRecDepth 100000 in
theorem l_5_58 : zco0 zmtT 5 58 = some (0, m_X_first) := rfl
set_option maxRecDepth 100000 in
theorem l_5_61 : zco0 zmtT 5 61 = some (0, m_M_first) := rfl
set_option maxRecDepth 100000 in
theorem l_5_62 : zco0 zmtT 5 62 = some (0, m_X_still) := rfl
set_option maxRecDepth 100000 in
theorem l_5_65 : zco0 zmtT 5 65 = some (0, m_M_still) := rfl
set_option maxRecDepth 100000 in
theorem l_5_66 : zco0 zmtT 5 66 = some (0, m_X_unseen) := rfl
set_option maxRecDepth 100000 in
theorem l_5_69 : zco0 zmtT 5 69 = some (0, m_M_unseen) := rfl
set_option maxRecDepth 100000 in
theorem l_5_70 : zco0 zmtT 5 70 = some (0, m_X_chain) := rfl
set_option maxRecDepth 100000 in
theorem l_5_73 : zco0 zmtT 5 73 = some (0, m_M_chain) := rfl
set_option maxRecDepth 100000 in
theorem l_5_74 : zco0 zmtT 5 74 = some (0, m_X_deepest) := rfl
set_option maxRecDepth 100000 in
theorem l_5_77 : zco0 zmtT 5 77 = some (0, m_M_deepest) := rfl
set_option maxRecDepth 100000 in
theorem l_5_78 : zco0 zmtT 5 78 = some (0, m_X_knows) := rfl
set_option maxRecDepth 100000 in
theorem l_5_81 : zco0 zmtT 5 81 = some (0, m_M_knows) := rfl
set_option maxRecDepth 100000 in
theorem l_5_82 : zco0 zmtT 5 82 = some (0, m_X_safe) := rfl
set_option maxRecDepth 100000 in
theorem l_5_85 : zco0 zmtT 5 85 = some (0, m_M_safe) := rfl
set_option maxRecDepth 100000 in
theorem l_5_86 : zco0 zmtT 5 86 = some (0, m_X_alone) := rfl
set_option maxRecDepth 100000 in
theorem l_5_89 : zco0 zmtT 5 89 = some (0, m_M_alone) := rfl
set_option maxRecDepth 100000 in
theorem l_5_90 : zco0 zmtT 5 90 = some (0, m_X_turnAll) := rfl
set_option maxRecDepth 100000 in
theorem l_5_93 : zco0 zmtT 5 93 = some (0, m_M_turnAll) := rfl
set_option maxRecDepth 100000 in
theorem l_5_94 : zco0 zmtT 5 94 = some (0, m_X_post) := rfl
set_option maxRecDepth 100000 in
theorem l_5_97 : zco0 zmtT 5 97 = some (0, m_M_post) := rfl
set_option maxRecDepth 100000 in
theorem l_5_98 : zco0 zmtT 5 98 = some (0, m_X_which) := rfl
set_option maxRecDepth 100000 in
theorem l_5_101 : zco0 zmtT 5 101 = some (0, m_M_which) := rfl
set_option maxRecDepth 100000 in
theorem l_5_102 : zco0 zmtT 5 102 = some (0, m_X_bestStep) := rfl
set_option maxRecDepth 100000 in
theorem l_5_105 : zco0 zmtT 5 105 = some (0, m_M_bestStep) := rfl
set_option maxRecDepth 100000 in
theorem l_5_106 : zco0 zmtT 5 106 = some (0, m_X_two) := rfl
set_option maxRecDepth 100000 in
theorem l_5_109 : zco0 zmtT 5 109 = some (0, m_M_two) := rfl
set_option maxRecDepth 100000 in
theorem l_5_110 : zco0 zmtT 5 110 = some (0, m_X_slept) := rfl
set_option maxRecDepth 100000 in
theorem l_5_114 : zco0 zmtT 5 114 = some (0, m_M_slept) := rfl
set_option maxRecDepth 100000 in
theorem l_5_115 : zco0 zmtT 5 115 = some (0, m_X_busiest) := rfl
set_option maxRecDepth 100000 in
theorem l_5_118 : zco0 zmtT 5 118 = some (0, m_M_busiest) := rfl
set_option maxRecDepth 100000 in
theorem l_5_119 : zco0 zmtT 5 119 = some (0, m_X_twos) := rfl
set_option maxRecDepth 100000 in
theorem l_5_122 : zco0 zmtT 5 122 = some (0, m_M_twos) := rfl
set_option maxRecDepth 100000 in
theorem l_5_123 : zco0 zmtT 5 123 = some (0, m_X_nearest) := rfl
set_option maxRecDepth 100000 in
theorem l_5_126 : zco0 zmtT 5 126 = some (0, m_M_nearest) := rfl
set_option maxRecDepth 100000 in
theorem l_5_127 : zco0 zmtT 5 127 = some (0, m_X_lines) := rfl
set_option maxRecDepth 100000 in
theorem l_5_130 : zco0 zmtT 5 130 = some (0, m_M_lines) := rfl
set_option maxRecDepth 100000 in
theorem l_5_131 : zco0 zmtT 5 131 = some (0, m_X_hidden) := rfl
set_option maxRecDepth 100000 in
theorem l_5_134 : zco0 zmtT 5 134 = some (0, m_M_hidden) := rfl
set_option maxRecDepth 100000 in
theorem l_5_135 : zco0 zmtT 5 135 = some (0, m_X_longest) := rfl
set_option maxRecDepth 100000 in
theorem l_5_138 : zco0 zmtT 5 138 = some (0, m_M_longest) := rfl
set_option maxRecDepth 100000 in
theorem l_5_139 : zco0 zmtT 5 139 = some (0, m_X_walks) := rfl
set_option maxRecDepth 100000 in
theorem l_5_142 : zco0 zmtT 5 142 = some (0, m_M_walks) := rfl
set_option maxRecDepth 100000 in
theorem l_5_143 : zco0 zmtT 5 143 = some (0, m_X_meets) := rfl
set_option maxRecDepth 100000 in
theorem l_5_146 : zco0 zmtT 5 146 = some (0, m_M_meets) := rfl
set_option maxRecDepth 100000 in
theorem l_5_147 : zco0 zmtT 5 147 = some (0, m_X_leave) := rfl
set_option maxRecDepth 100000 in
theorem l_5_150 : zco0 zmtT 5 150 = some (0, m_M_leave) := rfl
set_option maxRecDepth 100000 in
theorem l_5_151 : zco0 zmtT 5 151 = some (0, m_X_most) := rfl
set_option maxRecDepth 100000 in
theorem l_5_154 : zco0 zmtT 5 154 = some (0, m_M_most) := rfl
set_option maxRecDepth 100000 in
theorem l_5_155 : zco0 zmtT 5 155 = some (0, m_X_quiet) := rfl
set_option maxRecDepth 100000 in
theorem l_5_158 : zco0 zmtT 5 158 = some (0, m_M_quiet) := rfl
set_option maxRecDepth 100000 in
theorem l_5_159 : zco0 zmtT 5 159 = some (0, m_X_row) := rfl
set_option maxRecDepth 100000 in
theorem l_5_162 : zco0 zmtT 5 162 = some (0, m_M_row) := rfl
set_option maxRecDepth 100000 in
theorem l_5_163 : zco0 zmtT 5 163 = some (0, m_X_judge) := rfl
set_option maxRecDepth 100000 in
theorem l_5_166 : zco0 zmtT 5 166 = some (0, m_M_judge) := rfl
set_option maxRecDepth 100000 in
theorem l_5_167 : zco0 zmtT 5 167 = some (0, m_X_clear) := rfl
set_option maxRecDepth 100000 in
theorem l_5_170 : zco0 zmtT 5 170 = some (0, m_M_clear) := rfl
set_option maxRecDepth 100000 in
theorem l_5_171 : zco0 zmtT 5 171 = some (0, m_X_lots) := rfl
set_option maxRecDepth 100000 in
theorem l_5_174 : zco0 zmtT 5 174 = some (0, m_M_lots) := rfl
set_option maxRecDepth 100000 in
theorem l_5_175 : zco0 zmtT 5 175 = some (0, m_X_image) := rfl
set_option maxRecDepth 100000 in
theorem l_5_178 : zco0 zmtT 5 178 = some (0, m_M_image) := rfl
set_option maxRecDepth 100000 in
theorem l_5_179 : zco0 zmtT 5 179 = some (0, m_X_restore) := rfl
set_option maxRecDepth 100000 in
theorem l_5_182 : zco0 zmtT 5 182 = some (0, m_M_restore) := rfl
set_option maxRecDepth 100000 in
theorem l_5_183 : zco0 zmtT 5 183 = some (0, m_X_count) := rfl
set_option maxRecDepth 100000 in
theorem l_5_186 : zco0 zmtT 5 186 = some (0, m_M_count) := rfl
theorem zb_3_1 : zco0 zbiT 3 1 = some 1 := by decide +kernel
theorem zb_0_3 : zco0 zbiT 0 3 = some 1 := by decide +kernel
theorem zb_1_3 : zco0 zbiT 1 3 = some 1 := by decide +kernel
theorem zb_2_3 : zco0 zbiT 2 3 = some 1 := by decide +kernel
theorem zb_0_103 : zco0 zbiT 0 103 = some 2 := by decide +kernel
theorem zb_1_33 : zco0 zbiT 1 33 = some 2 := by decide +kernel
theorem zb_0_65 : zco0 zbiT 0 65 = some 3 := by decide +kernel
theorem zb_4_1 : zco0 zbiT 4 1 = some 1 := by decide +kernel
theorem zcs_bipush_m99 {o : Nat} : zcst o (.bipush (-99)) = some (.int (-99), 2) := by first | rfl | (show some (Value.int _, _) = _; decide +kernel)
theorem zcs_bipush_m9 {o : Nat} : zcst o (.bipush (-9)) = some (.int (-9), 2) := by first | rfl | (show some (Value.int _, _) = _; decide +kernel)
theorem zcs_bipush_m6 {o : Nat} : zcst o (.bipush (-6)) = some (.int (-6), 2) := by first | rfl | (show some (Value.int _, _) = _; decide +kernel)
theorem zcs_bipush_m4 {o : Nat} : zcst o (.bipush (-4)) = some (.int (-4), 2) := by first | rfl | (show some (Value.int _, _) = _; decide +kernel)
theorem zcs_bipush_m3 {o : Nat} : zcst o (.bipush (-3)) = some (.int (-3), 2) := by first | rfl | (show some (Value.int _, _) = _; decide +kernel)
theorem zcs_bipush_m2 {o : Nat} : zcst o (.bipush (-2)) = some (.int (-2), 2) := by first | rfl | (show some (Value.int _, _) = _; decide +kernel)
theorem zcs_bipush_6 {o : Nat} : zcst o (.bipush 6) = some (.int 6, 2) := by first | rfl | (show some (Value.int _, _) = _; decide +kernel)
theorem zcs_bipush_7 {o : Nat} : zcst o (.bipush 7) = some (.int 7, 2) := by first | rfl | (show some (Value.int _, _) = _; decide +kernel)
theorem zcs_bipush_8 {o : Nat} : zcst o (.bipush 8) = some (.int 8, 2) := by first | rfl | (show some (Value.int _, _) = _; decide +kernel)
theorem zcs_bipush_9 {o : Nat} : zcst o (.bipush 9) = some (.int 9, 2) := by first | rfl | (show some (Value.int _, _) = _; decide +kernel)
theorem zcs_bipush_10 {o : Nat} : zcst o (.bipush 10) = some (.int 10, 2) := by first | rfl | (show some (Value.int _, _) = _; decide +kernel)
theorem zcs_bipush_11 {o : Nat} : zcst o (.bipush 11) = some (.int 11, 2) := by first | rfl | (show some (Value.int _, _) = _; decide +kernel)
theorem zcs_bipush_12 {o : Nat} : zcst o (.bipush 12) = some (.int 12, 2) := by first | rfl | (show some (Value.int _, _) = _; decide +kernel)
theorem zcs_bipush_16 {o : Nat} : zcst o (.bipush 16) = some (.int 16, 2) := by first | rfl | (show some (Value.int _, _) = _; decide +kernel)
theorem zcs_bipush_20 {o : Nat} : zcst o (.bipush 20) = some (.int 20, 2) := by first | rfl | (show some (Value.int _, _) = _; decide +kernel)
theorem zcs_bipush_30 {o : Nat} : zcst o (.bipush 30) = some (.int 30, 2) := by first | rfl | (show some (Value.int _, _) = _; decide +kernel)
theorem zcs_bipush_32 {o : Nat} : zcst o (.bipush 32) = some (.int 32, 2) := by first | rfl | (show some (Value.int _, _) = _; decide +kernel)
theorem zcs_bipush_35 {o : Nat} : zcst o (.bipush 35) = some (.int 35, 2) := by first | rfl | (show some (Value.int _, _) = _; decide +kernel)
theorem zcs_bipush_36 {o : Nat} : zcst o (.bipush 36) = some (.int 36, 2) := by first | rfl | (show some (Value.int _, _) = _; decide +kernel)
theorem zcs_bipush_37 {o : Nat} : zcst o (.bipush 37) = some (.int 37, 2) := by first | rfl | (show some (Value.int _, _) = _; decide +kernel)
theorem zcs_bipush_48 {o : Nat} : zcst o (.bipush 48) = some (.int 48, 2) := by first | rfl | (show some (Value.int _, _) = _; decide +kernel)
theorem zcs_bipush_49 {o : Nat} : zcst o (.bipush 49) = some (.int 49, 2) := by first | rfl | (show some (Value.int _, _) = _; decide +kernel)
theorem zcs_bipush_57 {o : Nat} : zcst o (.bipush 57) = some (.int 57, 2) := by first | rfl | (show some (Value.int _, _) = _; decide +kernel)
theorem zcs_bipush_59 {o : Nat} : zcst o (.bipush 59) = some (.int 59, 2) := by first | rfl | (show some (Value.int _, _) = _; decide +kernel)
theorem zcs_bipush_60 {o : Nat} : zcst o (.bipush 60) = some (.int 60, 2) := by first | rfl | (show some (Value.int _, _) = _; decide +kernel)
theorem zcs_bipush_63 {o : Nat} : zcst o (.bipush 63) = some (.int 63, 2) := by first | rfl | (show some (Value.int _, _) = _; decide +kernel)
theorem zcs_bipush_96 {o : Nat} : zcst o (.bipush 96) = some (.int 96, 2) := by first | rfl | (show some (Value.int _, _) = _; decide +kernel)
theorem zcs_bipush_99 {o : Nat} : zcst o (.bipush 99) = some (.int 99, 2) := by first | rfl | (show some (Value.int _, _) = _; decide +kernel)
theorem zcs_bipush_102 {o : Nat} : zcst o (.bipush 102) = some (.int 102, 2) := by first | rfl | (show some (Value.int _, _) = _; decide +kernel)
theorem zcs_bipush_110 {o : Nat} : zcst o (.bipush 110) = some (.int 110, 2) := by first | rfl | (show some (Value.int _, _) = _; decide +kernel)
theorem zcs_bipush_112 {o : Nat} : zcst o (.bipush 112) = some (.int 112, 2) := by first | rfl | (show some (Value.int _, _) = _; decide +kernel)
theorem zcs_iconst_m1 {o : Nat} : zcst o (.iconst (-1)) = some (.int (-1), 1) := by first | rfl | (show some (Value.int _, _) = _; decide +kernel)
theorem zcs_iconst_0 {o : Nat} : zcst o (.iconst 0) = some (.int 0, 1) := by first | rfl | (show some (Value.int _, _) = _; decide +kernel)
theorem zcs_iconst_1 {o : Nat} : zcst o (.iconst 1) = some (.int 1, 1) := by first | rfl | (show some (Value.int _, _) = _; decide +kernel)
theorem zcs_iconst_2 {o : Nat} : zcst o (.iconst 2) = some (.int 2, 1) := by first | rfl | (show some (Value.int _, _) = _; decide +kernel)
theorem zcs_iconst_3 {o : Nat} : zcst o (.iconst 3) = some (.int 3, 1) := by first | rfl | (show some (Value.int _, _) = _; decide +kernel)
theorem zcs_iconst_4 {o : Nat} : zcst o (.iconst 4) = some (.int 4, 1) := by first | rfl | (show some (Value.int _, _) = _; decide +kernel)
theorem zcs_iconst_5 {o : Nat} : zcst o (.iconst 5) = some (.int 5, 1) := by first | rfl | (show some (Value.int _, _) = _; decide +kernel)
theorem zcs_lconst_0 {o : Nat} : zcst o (.lconst 0) = some (.long 0, 1) := by first | rfl | (show some (Value.long _, _) = _; decide +kernel)
theorem zcs_lconst_1 {o : Nat} : zcst o (.lconst 1) = some (.long 1, 1) := by first | rfl | (show some (Value.long _, _) = _; decide +kernel)
theorem zcs_sipush_m2000 {o : Nat} : zcst o (.sipush (-2000)) = some (.int (-2000), 3) := by first | rfl | (show some (Value.int _, _) = _; decide +kernel)
theorem zcs_sipush_m1000 {o : Nat} : zcst o (.sipush (-1000)) = some (.int (-1000), 3) := by first | rfl | (show some (Value.int _, _) = _; decide +kernel)
theorem zcs_sipush_143 {o : Nat} : zcst o (.sipush 143) = some (.int 143, 3) := by first | rfl | (show some (Value.int _, _) = _; decide +kernel)
theorem zcs_sipush_196 {o : Nat} : zcst o (.sipush 196) = some (.int 196, 3) := by first | rfl | (show some (Value.int _, _) = _; decide +kernel)
theorem zcs_sipush_255 {o : Nat} : zcst o (.sipush 255) = some (.int 255, 3) := by first | rfl | (show some (Value.int _, _) = _; decide +kernel)
theorem zcs_sipush_296 {o : Nat} : zcst o (.sipush 296) = some (.int 296, 3) := by first | rfl | (show some (Value.int _, _) = _; decide +kernel)
theorem zcs_sipush_999 {o : Nat} : zcst o (.sipush 999) = some (.int 999, 3) := by first | rfl | (show some (Value.int _, _) = _; decide +kernel)
theorem zcs_sipush_1000 {o : Nat} : zcst o (.sipush 1000) = some (.int 1000, 3) := by first | rfl | (show some (Value.int _, _) = _; decide +kernel)
theorem zcs_sipush_12345 {o : Nat} : zcst o (.sipush 12345) = some (.int 12345, 3) := by first | rfl | (show some (Value.int _, _) = _; decide +kernel)
theorem zcs_ldc_6_265 : zcst 6 (.ldc_w 265) = some (.int 1431655765, 3) := by decide +kernel
theorem zcs_ldc_6_266 : zcst 6 (.ldc_w 266) = some (.int 858993459, 3) := by decide +kernel
theorem zcs_ldc_6_267 : zcst 6 (.ldc_w 267) = some (.int 252645135, 3) := by decide +kernel
theorem zcs_ldc_3_272 : zcst 3 (.ldc_w 272) = some (.int 1103515245, 3) := by decide +kernel
theorem zcs_ldc_3_273 : zcst 3 (.ldc_w 273) = some (.int 2147483647, 3) := by decide +kernel
theorem zcs_ldc_3_274 : zcst 3 (.ldc_w 274) = some (.int 65536, 3) := by decide +kernel
theorem zcs_ldc_4_269 : zcst 4 (.ldc_w 269) = some (.int 1103515245, 3) := by decide +kernel
theorem zcs_ldc_4_270 : zcst 4 (.ldc_w 270) = some (.int 2147483647, 3) := by decide +kernel
theorem zcs_ldc_4_271 : zcst 4 (.ldc_w 271) = some (.int 65536, 3) := by decide +kernel
theorem zcs_ldc2_3_223 : zcst 3 (.ldc2_w 223) = some (.long 4000000000000000000, 3) := by decide +kernel
theorem zcs_ldc2_4_140 : zcst 4 (.ldc2_w 140) = some (.long 48, 3) := by decide +kernel
theorem zcs_ldc2_4_142 : zcst 4 (.ldc2_w 142) = some (.long 57, 3) := by decide +kernel
theorem zcs_ldc2_4_160 : zcst 4 (.ldc2_w 160) = some (.long 60, 3) := by decide +kernel
theorem zcs_ldc2_4_78 : zcst 4 (.ldc2_w 78) = some (.long 5, 3) := by decide +kernel
theorem zcs_ldc2_4_199 : zcst 4 (.ldc2_w 199) = some (.long 6, 3) := by decide +kernel
theorem zcs_ldc2_4_76 : zcst 4 (.ldc2_w 76) = some (.long 35, 3) := by decide +kernel
theorem zcs_ldc2_4_207 : zcst 4 (.ldc2_w 207) = some (.long 3, 3) := by decide +kernel
theorem zcs_ldc2_4_257 : zcst 4 (.ldc2_w 257) = some (.long 4000000000000000000, 3) := by decide +kernel
theorem zcs_ldc2_4_275 : zcst 4 (.ldc2_w 275) = some (.long 11, 3) := by decide +kernel
theorem zcs_ldc2_4_277 : zcst 4 (.ldc2_w 277) = some (.long 16, 3) := by decide +kernel
theorem zrk_wtf {a b d e f : Value} {n : Int32} : zrk m_X_waysToFace [a, b, .int n, d, e, f] < 14 := by
  show 5 + (if n < 1 ∨ 8 < n then 0 else n.toNatClampNeg) < 14
  by_cases h : n < 1 ∨ 8 < n
  · rw [if_pos h]; decide
  · rw [if_neg h]
    have h8 : ¬ 8 < n := fun q => h (Or.inr q)
    have h1 : n.toInt ≤ (8 : Int32).toInt := Int32.le_iff_toInt_le.mp (Int32.not_lt.mp h8)
    have h2 : (8 : Int32).toInt = 8 := by decide
    have h3 : n.toNatClampNeg = n.toInt.toNat := rfl
    omega
section zrows2
variable {X : zX} {r : Nat} {k : zM} {pc n : Nat} {ls ls' : zL} {st : List Value} {h : zH} {i : Instr}
theorem rn_rzg {v : Int32} (hd : decode (zb k) pc = .ok (.ireturn, 1)) (hr : zrt k = some .boolean) : zrn X r k pc ls [.int v] h = if v = 0 ∨ v = 1 then some (some (.int v), h) else none := by
  by_cases hv : v = 0 ∨ v = 1
  · rw [if_pos hv]; exact rn_rz hd hr hv
  · rw [if_neg hv]; exact rn_n hd rfl (by unfold zrtn; rw [hr]; dsimp only; rw [if_pos rfl, if_neg hv]) rfl
theorem zdz {x y : Int32} {o : Instr} (ho : o = .idiv ∨ o = .irem) (hd : decode (zb k) pc = .ok (o, 1)) (hy : y = 0) : zrn X r k pc ls (.int y :: .int x :: st) h = none := by
  subst hy
  rcases ho with rfl | rfl
  · exact rn_n hd (by rw [zsq_idiv]; rfl) rfl rfl
  · exact rn_n hd (by rw [zsq_irem]; rfl) rfl rfl
theorem zdzL {x y : Int64} {o : Instr} (ho : o = .ldiv ∨ o = .lrem) (hd : decode (zb k) pc = .ok (o, 1)) (hy : y = 0) : zrn X r k pc ls (.long y :: .long x :: st) h = none := by
  subst hy
  rcases ho with rfl | rfl
  · exact rn_n hd (by rw [zsq_ldiv]; rfl) rfl rfl
  · exact rn_n hd (by rw [zsq_lrem]; rfl) rfl rfl
theorem rn_gidiv {x y : Int32} (hd : decode (zb k) pc = .ok (.idiv, 1)) : zrn X r k pc ls (.int y :: .int x :: st) h = if y = 0 then none else zrn X r k (pc + 1) ls (.int (x / y) :: st) h := zite (fun q => zdz (Or.inl rfl) hd q) (fun q => rn_a2 hd (zar_div q))
theorem rn_girem {x y : Int32} (hd : decode (zb k) pc = .ok (.irem, 1)) : zrn X r k pc ls (.int y :: .int x :: st) h = if y = 0 then none else zrn X r k (pc + 1) ls (.int (zrem x y) :: st) h := zite (fun q => zdz (Or.inr rfl) hd q) (fun q => rn_a2 hd (zar_rem q))
theorem rn_gldiv {x y : Int64} (hd : decode (zb k) pc = .ok (.ldiv, 1)) : zrn X r k pc ls (.long y :: .long x :: st) h = if y = 0 then none else zrn X r k (pc + 1) ls (.long (x / y) :: st) h := zite (fun q => zdzL (Or.inl rfl) hd q) (fun q => rn_al hd (zal_div q))
theorem rn_glrem {x y : Int64} (hd : decode (zb k) pc = .ok (.lrem, 1)) : zrn X r k pc ls (.long y :: .long x :: st) h = if y = 0 then none else zrn X r k (pc + 1) ls (.long (zrmL x y) :: st) h := zite (fun q => zdzL (Or.inr rfl) hd q) (fun q => rn_al hd (zal_rem q))
theorem rn_aalc {a m q : Nat} {x : Int32} (hd : decode (zb k) pc = .ok (.aaload, 1)) (ha : zcl 140 a = (1, m)) (hx : zin x m = true) (hq : zlk zPH.2 a x.toNatClampNeg = q + 1) : zrn X r k pc ls (.int x :: .ref a :: st) h = zrn X r k (pc + 1) ls (.ref (q + 1) :: st) h := by
  rw [rn_aal hd ha, if_pos hx, hq]
  rfl
theorem rn_vR {nm : String} {m : zM} {as rest : List Value} {ix : Nat} (hd : decode (zb k) pc = .ok (.invokevirtual ix, 3)) (hi : zinv k (.invokevirtual ix) 3 (pc, ls, st, zPH, h) = some (m, as, rest, false)) (hk : zrk m as < r) (hr : zrt m = some (.object nm)) : zrn X r k pc ls st h = zbR (zcf X m as h) fun v h' => zrn X r k (pc + 3) ls (.ref v :: rest) h' := (rn_c hd zsim_iv zrtn_iv hi hk).trans (zcR hr)
theorem rn_tsw {d lo hi : Int} {offs : Array Int} {x : Int32} {t : Nat} (hd : decode (zb k) pc = .ok (.tableswitch d lo hi offs, n)) (ht : zsw pc d lo hi offs x = some t) : zrn X r k pc ls (.int x :: st) h = zrn X r k t ls st h := rn_s hd (by
  show zgo (zsw pc d lo hi offs x) ls st zPH h = _
  rw [ht]
  rfl)
theorem rn_lsw {d : Int} {ps : Array (Int × Int)} {x : Int32} {t : Nat} (hd : decode (zb k) pc = .ok (.lookupswitch d ps, n)) (ht : zlw pc d ps x = some t) : zrn X r k pc ls (.int x :: st) h = zrn X r k t ls st h := rn_s hd (by
  show zgo (zlw pc d ps x) ls st zPH h = _
  rw [ht]
  rfl)
theorem zsw_out {d lo hi : Int} {offs : Array Int} {x : Int32} {t : Nat} (h : x.toInt < lo ∨ hi < x.toInt) (ht : ztg pc d = some t) : zsw pc d lo hi offs x = some t := by
  unfold zsw
  rw [if_pos h, ht]
end zrows2
end
