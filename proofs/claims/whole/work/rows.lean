section
-- ===== PART A: goes FIRST, ahead of the names: the tables' words, and 'selects' of the private methods out of them =====
/-- a private method of a class that the tables say can be made, by its rows of tables_1 -/
def lw_okq (q : MethodName × Nat) : Prop := (q.1.cls ≠ "java/lang/invoke/MethodHandle" ∧ q.1.cls ≠ "java/lang/invoke/VarHandle") ∧ Cond.instantiable q.1.cls q.2 ∈ tables_1 ∧ Cond.privateMethod q.1 ∈ tables_1 ∧ Cond.instanceMethod q.1 ∈ tables_1
theorem lw_p0 : lw_okq (⟨"LightBursts$Book", "showLine", "(ILLightBursts$Track;)V"⟩, 5) := ⟨⟨by decide +kernel, by decide +kernel⟩, List.mem_of_getElem? (i := 17) (by decide +kernel), List.mem_of_getElem? (i := 151) (by decide +kernel), List.mem_of_getElem? (i := 152) (by decide +kernel)⟩
theorem lw_p1 : lw_okq (⟨"LightBursts$Track", "clear", "()V"⟩, 4) := ⟨⟨by decide +kernel, by decide +kernel⟩, List.mem_of_getElem? (i := 54) (by decide +kernel), List.mem_of_getElem? (i := 155) (by decide +kernel), List.mem_of_getElem? (i := 156) (by decide +kernel)⟩
theorem lw_p2 : lw_okq (⟨"LightBursts$Book", "fact", "(II)I"⟩, 5) := ⟨⟨by decide +kernel, by decide +kernel⟩, List.mem_of_getElem? (i := 17) (by decide +kernel), List.mem_of_getElem? (i := 159) (by decide +kernel), List.mem_of_getElem? (i := 160) (by decide +kernel)⟩
theorem lw_p3 : lw_okq (⟨"LightBursts$Track", "add", "(III)V"⟩, 4) := ⟨⟨by decide +kernel, by decide +kernel⟩, List.mem_of_getElem? (i := 54) (by decide +kernel), List.mem_of_getElem? (i := 164) (by decide +kernel), List.mem_of_getElem? (i := 165) (by decide +kernel)⟩
theorem lw_p4 : lw_okq (⟨"LightBursts$Track", "lastEnd", "()I"⟩, 4) := ⟨⟨by decide +kernel, by decide +kernel⟩, List.mem_of_getElem? (i := 54) (by decide +kernel), List.mem_of_getElem? (i := 169) (by decide +kernel), List.mem_of_getElem? (i := 170) (by decide +kernel)⟩
theorem lw_p5 : lw_okq (⟨"LightBursts$Track", "has", "(I)Z"⟩, 4) := ⟨⟨by decide +kernel, by decide +kernel⟩, List.mem_of_getElem? (i := 54) (by decide +kernel), List.mem_of_getElem? (i := 173) (by decide +kernel), List.mem_of_getElem? (i := 174) (by decide +kernel)⟩
theorem lw_p6 : lw_okq (⟨"LightBursts$Book", "comingTick", "(II)I"⟩, 5) := ⟨⟨by decide +kernel, by decide +kernel⟩, List.mem_of_getElem? (i := 17) (by decide +kernel), List.mem_of_getElem? (i := 191) (by decide +kernel), List.mem_of_getElem? (i := 192) (by decide +kernel)⟩
theorem lw_p7 : lw_okq (⟨"LightBursts$Book", "ruleNow", "(I)I"⟩, 5) := ⟨⟨by decide +kernel, by decide +kernel⟩, List.mem_of_getElem? (i := 17) (by decide +kernel), List.mem_of_getElem? (i := 195) (by decide +kernel), List.mem_of_getElem? (i := 196) (by decide +kernel)⟩
theorem lw_p8 : lw_okq (⟨"LightBursts$Placer", "place", "(IIII)V"⟩, 11) := ⟨⟨by decide +kernel, by decide +kernel⟩, List.mem_of_getElem? (i := 73) (by decide +kernel), List.mem_of_getElem? (i := 199) (by decide +kernel), List.mem_of_getElem? (i := 200) (by decide +kernel)⟩
theorem lw_p9 : lw_okq (⟨"LightBursts$Placer", "decide", "(IIIII)V"⟩, 11) := ⟨⟨by decide +kernel, by decide +kernel⟩, List.mem_of_getElem? (i := 73) (by decide +kernel), List.mem_of_getElem? (i := 203) (by decide +kernel), List.mem_of_getElem? (i := 204) (by decide +kernel)⟩
theorem lw_p10 : lw_okq (⟨"LightBursts$Placer", "send", "()V"⟩, 11) := ⟨⟨by decide +kernel, by decide +kernel⟩, List.mem_of_getElem? (i := 73) (by decide +kernel), List.mem_of_getElem? (i := 207) (by decide +kernel), List.mem_of_getElem? (i := 208) (by decide +kernel)⟩
theorem lw_p11 : lw_okq (⟨"LightBursts$Placer", "bestColour", "(I)I"⟩, 11) := ⟨⟨by decide +kernel, by decide +kernel⟩, List.mem_of_getElem? (i := 73) (by decide +kernel), List.mem_of_getElem? (i := 211) (by decide +kernel), List.mem_of_getElem? (i := 212) (by decide +kernel)⟩
theorem lw_p12 : lw_okq (⟨"LightBursts$Placer", "awayFrom", "(I)I"⟩, 11) := ⟨⟨by decide +kernel, by decide +kernel⟩, List.mem_of_getElem? (i := 73) (by decide +kernel), List.mem_of_getElem? (i := 215) (by decide +kernel), List.mem_of_getElem? (i := 216) (by decide +kernel)⟩
theorem lw_p13 : lw_okq (⟨"LightBursts$Book", "showColour", "(IILLightBursts$Track;)V"⟩, 5) := ⟨⟨by decide +kernel, by decide +kernel⟩, List.mem_of_getElem? (i := 17) (by decide +kernel), List.mem_of_getElem? (i := 223) (by decide +kernel), List.mem_of_getElem? (i := 224) (by decide +kernel)⟩
theorem lw_p14 : lw_okq (⟨"LightBursts$Placer", "fillsVoids", "()Z"⟩, 11) := ⟨⟨by decide +kernel, by decide +kernel⟩, List.mem_of_getElem? (i := 73) (by decide +kernel), List.mem_of_getElem? (i := 227) (by decide +kernel), List.mem_of_getElem? (i := 228) (by decide +kernel)⟩
theorem lw_p15 : lw_okq (⟨"LightBursts$Track", "isFree", "(IIZ)Z"⟩, 4) := ⟨⟨by decide +kernel, by decide +kernel⟩, List.mem_of_getElem? (i := 54) (by decide +kernel), List.mem_of_getElem? (i := 231) (by decide +kernel), List.mem_of_getElem? (i := 232) (by decide +kernel)⟩
def lw_privs_1 : List (MethodName × Nat) := [(⟨"LightBursts$Book", "showLine", "(ILLightBursts$Track;)V"⟩, 5), (⟨"LightBursts$Track", "clear", "()V"⟩, 4), (⟨"LightBursts$Book", "fact", "(II)I"⟩, 5), (⟨"LightBursts$Track", "add", "(III)V"⟩, 4), (⟨"LightBursts$Track", "lastEnd", "()I"⟩, 4), (⟨"LightBursts$Track", "has", "(I)Z"⟩, 4), (⟨"LightBursts$Book", "comingTick", "(II)I"⟩, 5), (⟨"LightBursts$Book", "ruleNow", "(I)I"⟩, 5), (⟨"LightBursts$Placer", "place", "(IIII)V"⟩, 11), (⟨"LightBursts$Placer", "decide", "(IIIII)V"⟩, 11), (⟨"LightBursts$Placer", "send", "()V"⟩, 11), (⟨"LightBursts$Placer", "bestColour", "(I)I"⟩, 11), (⟨"LightBursts$Placer", "awayFrom", "(I)I"⟩, 11), (⟨"LightBursts$Book", "showColour", "(IILLightBursts$Track;)V"⟩, 5), (⟨"LightBursts$Placer", "fillsVoids", "()Z"⟩, 11), (⟨"LightBursts$Track", "isFree", "(IIZ)Z"⟩, 4)]
theorem lw_r1 : ∀ q ∈ lw_privs_1, lw_okq q := List.forall_mem_cons.mpr ⟨lw_p0, List.forall_mem_cons.mpr ⟨lw_p1, List.forall_mem_cons.mpr ⟨lw_p2, List.forall_mem_cons.mpr ⟨lw_p3, List.forall_mem_cons.mpr ⟨lw_p4, List.forall_mem_cons.mpr ⟨lw_p5, List.forall_mem_cons.mpr ⟨lw_p6, List.forall_mem_cons.mpr ⟨lw_p7, List.forall_mem_cons.mpr ⟨lw_p8, List.forall_mem_cons.mpr ⟨lw_p9, List.forall_mem_cons.mpr ⟨lw_p10, List.forall_mem_cons.mpr ⟨lw_p11, List.forall_mem_cons.mpr ⟨lw_p12, List.forall_mem_cons.mpr ⟨lw_p13, List.forall_mem_cons.mpr ⟨lw_p14, List.forall_mem_cons.mpr ⟨lw_p15, fun _ h => absurd h List.not_mem_nil⟩⟩⟩⟩⟩⟩⟩⟩⟩⟩⟩⟩⟩⟩⟩⟩
theorem lw_p16 : lw_okq (⟨"LightBursts$Track", "room", "(IIZ)I"⟩, 4) := ⟨⟨by decide +kernel, by decide +kernel⟩, List.mem_of_getElem? (i := 54) (by decide +kernel), List.mem_of_getElem? (i := 235) (by decide +kernel), List.mem_of_getElem? (i := 236) (by decide +kernel)⟩
theorem lw_p17 : lw_okq (⟨"LightBursts$Track", "lastEndUpTo", "(II)I"⟩, 4) := ⟨⟨by decide +kernel, by decide +kernel⟩, List.mem_of_getElem? (i := 54) (by decide +kernel), List.mem_of_getElem? (i := 245) (by decide +kernel), List.mem_of_getElem? (i := 246) (by decide +kernel)⟩
theorem lw_p18 : lw_okq (⟨"LightBursts$Placer", "isNearer", "(II)Z"⟩, 11) := ⟨⟨by decide +kernel, by decide +kernel⟩, List.mem_of_getElem? (i := 73) (by decide +kernel), List.mem_of_getElem? (i := 249) (by decide +kernel), List.mem_of_getElem? (i := 250) (by decide +kernel)⟩
theorem lw_p19 : lw_okq (⟨"LightBursts$Placer", "delay", "()V"⟩, 11) := ⟨⟨by decide +kernel, by decide +kernel⟩, List.mem_of_getElem? (i := 73) (by decide +kernel), List.mem_of_getElem? (i := 253) (by decide +kernel), List.mem_of_getElem? (i := 254) (by decide +kernel)⟩
theorem lw_p20 : lw_okq (⟨"LightBursts$Book", "lengthNow", "(I)I"⟩, 5) := ⟨⟨by decide +kernel, by decide +kernel⟩, List.mem_of_getElem? (i := 17) (by decide +kernel), List.mem_of_getElem? (i := 257) (by decide +kernel), List.mem_of_getElem? (i := 258) (by decide +kernel)⟩
theorem lw_p21 : lw_okq (⟨"LightBursts$Placer", "isLineFree", "(I)Z"⟩, 11) := ⟨⟨by decide +kernel, by decide +kernel⟩, List.mem_of_getElem? (i := 73) (by decide +kernel), List.mem_of_getElem? (i := 261) (by decide +kernel), List.mem_of_getElem? (i := 262) (by decide +kernel)⟩
theorem lw_p22 : lw_okq (⟨"LightBursts$Placer", "cut", "()V"⟩, 11) := ⟨⟨by decide +kernel, by decide +kernel⟩, List.mem_of_getElem? (i := 73) (by decide +kernel), List.mem_of_getElem? (i := 266) (by decide +kernel), List.mem_of_getElem? (i := 267) (by decide +kernel)⟩
theorem lw_p23 : lw_okq (⟨"LightBursts$Track", "pieceBegin", "(IIZ)I"⟩, 4) := ⟨⟨by decide +kernel, by decide +kernel⟩, List.mem_of_getElem? (i := 54) (by decide +kernel), List.mem_of_getElem? (i := 270) (by decide +kernel), List.mem_of_getElem? (i := 271) (by decide +kernel)⟩
theorem lw_p24 : lw_okq (⟨"LightBursts$Book", "setFact", "(III)V"⟩, 5) := ⟨⟨by decide +kernel, by decide +kernel⟩, List.mem_of_getElem? (i := 17) (by decide +kernel), List.mem_of_getElem? (i := 275) (by decide +kernel), List.mem_of_getElem? (i := 276) (by decide +kernel)⟩
theorem lw_p25 : lw_okq (⟨"LightBursts$Placer", "writeTo", "(I)V"⟩, 11) := ⟨⟨by decide +kernel, by decide +kernel⟩, List.mem_of_getElem? (i := 73) (by decide +kernel), List.mem_of_getElem? (i := 279) (by decide +kernel), List.mem_of_getElem? (i := 280) (by decide +kernel)⟩
theorem lw_p26 : lw_okq (⟨"LightBursts$Book", "takeBack", "(I)V"⟩, 5) := ⟨⟨by decide +kernel, by decide +kernel⟩, List.mem_of_getElem? (i := 17) (by decide +kernel), List.mem_of_getElem? (i := 293) (by decide +kernel), List.mem_of_getElem? (i := 294) (by decide +kernel)⟩
theorem lw_p27 : lw_okq (⟨"LightBursts", "ofBooking", "(II)I"⟩, 6) := ⟨⟨by decide +kernel, by decide +kernel⟩, List.mem_of_getElem? (i := 9) (by decide +kernel), List.mem_of_getElem? (i := 307) (by decide +kernel), List.mem_of_getElem? (i := 308) (by decide +kernel)⟩
theorem lw_p28 : lw_okq (⟨"LightBursts$Track", "begin", "(I)I"⟩, 4) := ⟨⟨by decide +kernel, by decide +kernel⟩, List.mem_of_getElem? (i := 54) (by decide +kernel), List.mem_of_getElem? (i := 311) (by decide +kernel), List.mem_of_getElem? (i := 312) (by decide +kernel)⟩
theorem lw_p29 : lw_okq (⟨"LightBursts$Track", "ticks", "(I)I"⟩, 4) := ⟨⟨by decide +kernel, by decide +kernel⟩, List.mem_of_getElem? (i := 54) (by decide +kernel), List.mem_of_getElem? (i := 315) (by decide +kernel), List.mem_of_getElem? (i := 316) (by decide +kernel)⟩
theorem lw_p30 : lw_okq (⟨"LightBursts$Track", "burstOf", "(I)I"⟩, 4) := ⟨⟨by decide +kernel, by decide +kernel⟩, List.mem_of_getElem? (i := 54) (by decide +kernel), List.mem_of_getElem? (i := 319) (by decide +kernel), List.mem_of_getElem? (i := 320) (by decide +kernel)⟩
theorem lw_p31 : lw_okq (⟨"LightBursts$Track", "bookedTicks", "(II)I"⟩, 4) := ⟨⟨by decide +kernel, by decide +kernel⟩, List.mem_of_getElem? (i := 54) (by decide +kernel), List.mem_of_getElem? (i := 334) (by decide +kernel), List.mem_of_getElem? (i := 335) (by decide +kernel)⟩
def lw_privs_2 : List (MethodName × Nat) := [(⟨"LightBursts$Track", "room", "(IIZ)I"⟩, 4), (⟨"LightBursts$Track", "lastEndUpTo", "(II)I"⟩, 4), (⟨"LightBursts$Placer", "isNearer", "(II)Z"⟩, 11), (⟨"LightBursts$Placer", "delay", "()V"⟩, 11), (⟨"LightBursts$Book", "lengthNow", "(I)I"⟩, 5), (⟨"LightBursts$Placer", "isLineFree", "(I)Z"⟩, 11), (⟨"LightBursts$Placer", "cut", "()V"⟩, 11), (⟨"LightBursts$Track", "pieceBegin", "(IIZ)I"⟩, 4), (⟨"LightBursts$Book", "setFact", "(III)V"⟩, 5), (⟨"LightBursts$Placer", "writeTo", "(I)V"⟩, 11), (⟨"LightBursts$Book", "takeBack", "(I)V"⟩, 5), (⟨"LightBursts", "ofBooking", "(II)I"⟩, 6), (⟨"LightBursts$Track", "begin", "(I)I"⟩, 4), (⟨"LightBursts$Track", "ticks", "(I)I"⟩, 4), (⟨"LightBursts$Track", "burstOf", "(I)I"⟩, 4), (⟨"LightBursts$Track", "bookedTicks", "(II)I"⟩, 4)]
theorem lw_r2 : ∀ q ∈ lw_privs_2, lw_okq q := List.forall_mem_cons.mpr ⟨lw_p16, List.forall_mem_cons.mpr ⟨lw_p17, List.forall_mem_cons.mpr ⟨lw_p18, List.forall_mem_cons.mpr ⟨lw_p19, List.forall_mem_cons.mpr ⟨lw_p20, List.forall_mem_cons.mpr ⟨lw_p21, List.forall_mem_cons.mpr ⟨lw_p22, List.forall_mem_cons.mpr ⟨lw_p23, List.forall_mem_cons.mpr ⟨lw_p24, List.forall_mem_cons.mpr ⟨lw_p25, List.forall_mem_cons.mpr ⟨lw_p26, List.forall_mem_cons.mpr ⟨lw_p27, List.forall_mem_cons.mpr ⟨lw_p28, List.forall_mem_cons.mpr ⟨lw_p29, List.forall_mem_cons.mpr ⟨lw_p30, List.forall_mem_cons.mpr ⟨lw_p31, fun _ h => absurd h List.not_mem_nil⟩⟩⟩⟩⟩⟩⟩⟩⟩⟩⟩⟩⟩⟩⟩⟩
theorem lw_p32 : lw_okq (⟨"LightBursts$Track", "firstFree", "(II)I"⟩, 4) := ⟨⟨by decide +kernel, by decide +kernel⟩, List.mem_of_getElem? (i := 54) (by decide +kernel), List.mem_of_getElem? (i := 347) (by decide +kernel), List.mem_of_getElem? (i := 348) (by decide +kernel)⟩
theorem lw_p33 : lw_okq (⟨"LightBursts$Track", "closingOfVoid", "(II)I"⟩, 4) := ⟨⟨by decide +kernel, by decide +kernel⟩, List.mem_of_getElem? (i := 54) (by decide +kernel), List.mem_of_getElem? (i := 355) (by decide +kernel), List.mem_of_getElem? (i := 356) (by decide +kernel)⟩
theorem lw_p34 : lw_okq (⟨"LightBursts$Track", "voidBefore", "(II)I"⟩, 4) := ⟨⟨by decide +kernel, by decide +kernel⟩, List.mem_of_getElem? (i := 54) (by decide +kernel), List.mem_of_getElem? (i := 359) (by decide +kernel), List.mem_of_getElem? (i := 360) (by decide +kernel)⟩
theorem lw_p35 : lw_okq (⟨"LightBursts$Book", "burstsOfClass", "(I)I"⟩, 5) := ⟨⟨by decide +kernel, by decide +kernel⟩, List.mem_of_getElem? (i := 17) (by decide +kernel), List.mem_of_getElem? (i := 368) (by decide +kernel), List.mem_of_getElem? (i := 369) (by decide +kernel)⟩
theorem lw_p36 : lw_okq (⟨"LightBursts$Book", "isTallied", "(II)Z"⟩, 5) := ⟨⟨by decide +kernel, by decide +kernel⟩, List.mem_of_getElem? (i := 17) (by decide +kernel), List.mem_of_getElem? (i := 372) (by decide +kernel), List.mem_of_getElem? (i := 373) (by decide +kernel)⟩
theorem lw_p37 : lw_okq (⟨"LightBursts$Book", "sumOfClass", "(II)I"⟩, 5) := ⟨⟨by decide +kernel, by decide +kernel⟩, List.mem_of_getElem? (i := 17) (by decide +kernel), List.mem_of_getElem? (i := 376) (by decide +kernel), List.mem_of_getElem? (i := 377) (by decide +kernel)⟩
theorem lw_p38 : lw_okq (⟨"LightBursts$Book", "lostOfClass", "(I)I"⟩, 5) := ⟨⟨by decide +kernel, by decide +kernel⟩, List.mem_of_getElem? (i := 17) (by decide +kernel), List.mem_of_getElem? (i := 380) (by decide +kernel), List.mem_of_getElem? (i := 381) (by decide +kernel)⟩
theorem lw_p39 : lw_okq (⟨"LightBursts", "partLost", "(IZ)I"⟩, 6) := ⟨⟨by decide +kernel, by decide +kernel⟩, List.mem_of_getElem? (i := 9) (by decide +kernel), List.mem_of_getElem? (i := 384) (by decide +kernel), List.mem_of_getElem? (i := 385) (by decide +kernel)⟩
theorem lw_p40 : lw_okq (⟨"LightBursts$Book", "burstsOfFate", "(I)I"⟩, 5) := ⟨⟨by decide +kernel, by decide +kernel⟩, List.mem_of_getElem? (i := 17) (by decide +kernel), List.mem_of_getElem? (i := 395) (by decide +kernel), List.mem_of_getElem? (i := 396) (by decide +kernel)⟩
theorem lw_p41 : lw_okq (⟨"LightBursts$Book", "burstsWhere", "(II)I"⟩, 5) := ⟨⟨by decide +kernel, by decide +kernel⟩, List.mem_of_getElem? (i := 17) (by decide +kernel), List.mem_of_getElem? (i := 399) (by decide +kernel), List.mem_of_getElem? (i := 400) (by decide +kernel)⟩
theorem lw_p42 : lw_okq (⟨"LightBursts$Book", "burstsWith", "(I)I"⟩, 5) := ⟨⟨by decide +kernel, by decide +kernel⟩, List.mem_of_getElem? (i := 17) (by decide +kernel), List.mem_of_getElem? (i := 405) (by decide +kernel), List.mem_of_getElem? (i := 406) (by decide +kernel)⟩
theorem lw_p43 : lw_okq (⟨"LightBursts", "imageOf", "(I)LLightBursts$Book;"⟩, 6) := ⟨⟨by decide +kernel, by decide +kernel⟩, List.mem_of_getElem? (i := 9) (by decide +kernel), List.mem_of_getElem? (i := 413) (by decide +kernel), List.mem_of_getElem? (i := 414) (by decide +kernel)⟩
theorem lw_p44 : lw_okq (⟨"LightBursts$Book", "copyFrom", "(LLightBursts$Book;)V"⟩, 5) := ⟨⟨by decide +kernel, by decide +kernel⟩, List.mem_of_getElem? (i := 17) (by decide +kernel), List.mem_of_getElem? (i := 417) (by decide +kernel), List.mem_of_getElem? (i := 418) (by decide +kernel)⟩
theorem lw_p45 : lw_okq (⟨"LightBurstsModel", "isOnLine", "(II)Z"⟩, 8) := ⟨⟨by decide +kernel, by decide +kernel⟩, List.mem_of_getElem? (i := 428) (by decide +kernel), List.mem_of_getElem? (i := 471) (by decide +kernel), List.mem_of_getElem? (i := 472) (by decide +kernel)⟩
theorem lw_p46 : lw_okq (⟨"LightBurstsModel", "of", "(II)I"⟩, 8) := ⟨⟨by decide +kernel, by decide +kernel⟩, List.mem_of_getElem? (i := 428) (by decide +kernel), List.mem_of_getElem? (i := 475) (by decide +kernel), List.mem_of_getElem? (i := 476) (by decide +kernel)⟩
theorem lw_p47 : lw_okq (⟨"LightBurstsModel", "comes", "(II)I"⟩, 8) := ⟨⟨by decide +kernel, by decide +kernel⟩, List.mem_of_getElem? (i := 428) (by decide +kernel), List.mem_of_getElem? (i := 499) (by decide +kernel), List.mem_of_getElem? (i := 500) (by decide +kernel)⟩
def lw_privs_3 : List (MethodName × Nat) := [(⟨"LightBursts$Track", "firstFree", "(II)I"⟩, 4), (⟨"LightBursts$Track", "closingOfVoid", "(II)I"⟩, 4), (⟨"LightBursts$Track", "voidBefore", "(II)I"⟩, 4), (⟨"LightBursts$Book", "burstsOfClass", "(I)I"⟩, 5), (⟨"LightBursts$Book", "isTallied", "(II)Z"⟩, 5), (⟨"LightBursts$Book", "sumOfClass", "(II)I"⟩, 5), (⟨"LightBursts$Book", "lostOfClass", "(I)I"⟩, 5), (⟨"LightBursts", "partLost", "(IZ)I"⟩, 6), (⟨"LightBursts$Book", "burstsOfFate", "(I)I"⟩, 5), (⟨"LightBursts$Book", "burstsWhere", "(II)I"⟩, 5), (⟨"LightBursts$Book", "burstsWith", "(I)I"⟩, 5), (⟨"LightBursts", "imageOf", "(I)LLightBursts$Book;"⟩, 6), (⟨"LightBursts$Book", "copyFrom", "(LLightBursts$Book;)V"⟩, 5), (⟨"LightBurstsModel", "isOnLine", "(II)Z"⟩, 8), (⟨"LightBurstsModel", "of", "(II)I"⟩, 8), (⟨"LightBurstsModel", "comes", "(II)I"⟩, 8)]
theorem lw_r3 : ∀ q ∈ lw_privs_3, lw_okq q := List.forall_mem_cons.mpr ⟨lw_p32, List.forall_mem_cons.mpr ⟨lw_p33, List.forall_mem_cons.mpr ⟨lw_p34, List.forall_mem_cons.mpr ⟨lw_p35, List.forall_mem_cons.mpr ⟨lw_p36, List.forall_mem_cons.mpr ⟨lw_p37, List.forall_mem_cons.mpr ⟨lw_p38, List.forall_mem_cons.mpr ⟨lw_p39, List.forall_mem_cons.mpr ⟨lw_p40, List.forall_mem_cons.mpr ⟨lw_p41, List.forall_mem_cons.mpr ⟨lw_p42, List.forall_mem_cons.mpr ⟨lw_p43, List.forall_mem_cons.mpr ⟨lw_p44, List.forall_mem_cons.mpr ⟨lw_p45, List.forall_mem_cons.mpr ⟨lw_p46, List.forall_mem_cons.mpr ⟨lw_p47, fun _ h => absurd h List.not_mem_nil⟩⟩⟩⟩⟩⟩⟩⟩⟩⟩⟩⟩⟩⟩⟩⟩
theorem lw_p48 : lw_okq (⟨"LightBurstsModel", "place", "(IIII)V"⟩, 8) := ⟨⟨by decide +kernel, by decide +kernel⟩, List.mem_of_getElem? (i := 428) (by decide +kernel), List.mem_of_getElem? (i := 503) (by decide +kernel), List.mem_of_getElem? (i := 504) (by decide +kernel)⟩
theorem lw_p49 : lw_okq (⟨"LightBurstsModel", "colourFor", "(IIII)I"⟩, 8) := ⟨⟨by decide +kernel, by decide +kernel⟩, List.mem_of_getElem? (i := 428) (by decide +kernel), List.mem_of_getElem? (i := 507) (by decide +kernel), List.mem_of_getElem? (i := 508) (by decide +kernel)⟩
theorem lw_p50 : lw_okq (⟨"LightBurstsModel", "isFree", "(IIII)Z"⟩, 8) := ⟨⟨by decide +kernel, by decide +kernel⟩, List.mem_of_getElem? (i := 428) (by decide +kernel), List.mem_of_getElem? (i := 514) (by decide +kernel), List.mem_of_getElem? (i := 515) (by decide +kernel)⟩
theorem lw_p51 : lw_okq (⟨"LightBurstsModel", "isClear", "(IIII)Z"⟩, 8) := ⟨⟨by decide +kernel, by decide +kernel⟩, List.mem_of_getElem? (i := 428) (by decide +kernel), List.mem_of_getElem? (i := 518) (by decide +kernel), List.mem_of_getElem? (i := 519) (by decide +kernel)⟩
theorem lw_p52 : lw_okq (⟨"LightBurstsModel", "isOn", "(III)Z"⟩, 8) := ⟨⟨by decide +kernel, by decide +kernel⟩, List.mem_of_getElem? (i := 428) (by decide +kernel), List.mem_of_getElem? (i := 522) (by decide +kernel), List.mem_of_getElem? (i := 523) (by decide +kernel)⟩
theorem lw_p53 : lw_okq (⟨"LightBurstsModel", "isLast", "(III)Z"⟩, 8) := ⟨⟨by decide +kernel, by decide +kernel⟩, List.mem_of_getElem? (i := 428) (by decide +kernel), List.mem_of_getElem? (i := 529) (by decide +kernel), List.mem_of_getElem? (i := 530) (by decide +kernel)⟩
theorem lw_p54 : lw_okq (⟨"LightBurstsModel", "gap", "(III)I"⟩, 8) := ⟨⟨by decide +kernel, by decide +kernel⟩, List.mem_of_getElem? (i := 428) (by decide +kernel), List.mem_of_getElem? (i := 533) (by decide +kernel), List.mem_of_getElem? (i := 534) (by decide +kernel)⟩
theorem lw_p55 : lw_okq (⟨"LightBurstsModel", "get", "(IIIII)V"⟩, 8) := ⟨⟨by decide +kernel, by decide +kernel⟩, List.mem_of_getElem? (i := 428) (by decide +kernel), List.mem_of_getElem? (i := 537) (by decide +kernel), List.mem_of_getElem? (i := 538) (by decide +kernel)⟩
theorem lw_p56 : lw_okq (⟨"LightBurstsModel", "lineFor", "(IIII)I"⟩, 8) := ⟨⟨by decide +kernel, by decide +kernel⟩, List.mem_of_getElem? (i := 428) (by decide +kernel), List.mem_of_getElem? (i := 541) (by decide +kernel), List.mem_of_getElem? (i := 542) (by decide +kernel)⟩
theorem lw_p57 : lw_okq (⟨"LightBurstsModel", "isLineClear", "(III)Z"⟩, 8) := ⟨⟨by decide +kernel, by decide +kernel⟩, List.mem_of_getElem? (i := 428) (by decide +kernel), List.mem_of_getElem? (i := 545) (by decide +kernel), List.mem_of_getElem? (i := 546) (by decide +kernel)⟩
theorem lw_p58 : lw_okq (⟨"LightBurstsModel", "cut", "(IIII)V"⟩, 8) := ⟨⟨by decide +kernel, by decide +kernel⟩, List.mem_of_getElem? (i := 428) (by decide +kernel), List.mem_of_getElem? (i := 549) (by decide +kernel), List.mem_of_getElem? (i := 550) (by decide +kernel)⟩
theorem lw_p59 : lw_okq (⟨"LightBurstsModel", "pieceOf", "(IIII)I"⟩, 8) := ⟨⟨by decide +kernel, by decide +kernel⟩, List.mem_of_getElem? (i := 428) (by decide +kernel), List.mem_of_getElem? (i := 553) (by decide +kernel), List.mem_of_getElem? (i := 554) (by decide +kernel)⟩
theorem lw_p60 : lw_okq (⟨"LightBurstsModel", "isBurst", "(I)Z"⟩, 8) := ⟨⟨by decide +kernel, by decide +kernel⟩, List.mem_of_getElem? (i := 428) (by decide +kernel), List.mem_of_getElem? (i := 565) (by decide +kernel), List.mem_of_getElem? (i := 566) (by decide +kernel)⟩
theorem lw_p61 : lw_okq (⟨"LightBurstsModel", "bookingAt", "(III)I"⟩, 8) := ⟨⟨by decide +kernel, by decide +kernel⟩, List.mem_of_getElem? (i := 428) (by decide +kernel), List.mem_of_getElem? (i := 577) (by decide +kernel), List.mem_of_getElem? (i := 578) (by decide +kernel)⟩
theorem lw_p62 : lw_okq (⟨"LightBurstsModel", "beginOf", "(II)I"⟩, 8) := ⟨⟨by decide +kernel, by decide +kernel⟩, List.mem_of_getElem? (i := 428) (by decide +kernel), List.mem_of_getElem? (i := 581) (by decide +kernel), List.mem_of_getElem? (i := 582) (by decide +kernel)⟩
theorem lw_p63 : lw_okq (⟨"LightBurstsModel", "ofFate", "(I)I"⟩, 8) := ⟨⟨by decide +kernel, by decide +kernel⟩, List.mem_of_getElem? (i := 428) (by decide +kernel), List.mem_of_getElem? (i := 619) (by decide +kernel), List.mem_of_getElem? (i := 620) (by decide +kernel)⟩
def lw_privs_4 : List (MethodName × Nat) := [(⟨"LightBurstsModel", "place", "(IIII)V"⟩, 8), (⟨"LightBurstsModel", "colourFor", "(IIII)I"⟩, 8), (⟨"LightBurstsModel", "isFree", "(IIII)Z"⟩, 8), (⟨"LightBurstsModel", "isClear", "(IIII)Z"⟩, 8), (⟨"LightBurstsModel", "isOn", "(III)Z"⟩, 8), (⟨"LightBurstsModel", "isLast", "(III)Z"⟩, 8), (⟨"LightBurstsModel", "gap", "(III)I"⟩, 8), (⟨"LightBurstsModel", "get", "(IIIII)V"⟩, 8), (⟨"LightBurstsModel", "lineFor", "(IIII)I"⟩, 8), (⟨"LightBurstsModel", "isLineClear", "(III)Z"⟩, 8), (⟨"LightBurstsModel", "cut", "(IIII)V"⟩, 8), (⟨"LightBurstsModel", "pieceOf", "(IIII)I"⟩, 8), (⟨"LightBurstsModel", "isBurst", "(I)Z"⟩, 8), (⟨"LightBurstsModel", "bookingAt", "(III)I"⟩, 8), (⟨"LightBurstsModel", "beginOf", "(II)I"⟩, 8), (⟨"LightBurstsModel", "ofFate", "(I)I"⟩, 8)]
theorem lw_r4 : ∀ q ∈ lw_privs_4, lw_okq q := List.forall_mem_cons.mpr ⟨lw_p48, List.forall_mem_cons.mpr ⟨lw_p49, List.forall_mem_cons.mpr ⟨lw_p50, List.forall_mem_cons.mpr ⟨lw_p51, List.forall_mem_cons.mpr ⟨lw_p52, List.forall_mem_cons.mpr ⟨lw_p53, List.forall_mem_cons.mpr ⟨lw_p54, List.forall_mem_cons.mpr ⟨lw_p55, List.forall_mem_cons.mpr ⟨lw_p56, List.forall_mem_cons.mpr ⟨lw_p57, List.forall_mem_cons.mpr ⟨lw_p58, List.forall_mem_cons.mpr ⟨lw_p59, List.forall_mem_cons.mpr ⟨lw_p60, List.forall_mem_cons.mpr ⟨lw_p61, List.forall_mem_cons.mpr ⟨lw_p62, List.forall_mem_cons.mpr ⟨lw_p63, fun _ h => absurd h List.not_mem_nil⟩⟩⟩⟩⟩⟩⟩⟩⟩⟩⟩⟩⟩⟩⟩⟩
def lw_privs : List (MethodName × Nat) := lw_privs_1 ++ (lw_privs_2 ++ (lw_privs_3 ++ (lw_privs_4)))
def lw_tbl : List Cond := k2_sels lw_privs ++ tables_1
theorem lw_privs_ok : ∀ q ∈ lw_privs, lw_okq q := by
  show ∀ q ∈ lw_privs_1 ++ (lw_privs_2 ++ (lw_privs_3 ++ (lw_privs_4))), lw_okq q
  exact List.forall_mem_append.mpr ⟨lw_r1, List.forall_mem_append.mpr ⟨lw_r2, List.forall_mem_append.mpr ⟨lw_r3, lw_r4⟩⟩⟩
-- ===== end of PART A; then your names; then what follows =====
end
section
/-! ===== BEGIN words of one list among another's, by their places ===== -/
theorem goodIn_r {big : List Cond} (ws : List Cond) (ps : List Nat) (hp : ws = ps.filterMap (fun i => big[i]?)) (h : ws.all goodWord = true) : GoodIn big ws := by
  intro w hw
  have h1 := List.all_eq_true.mp h w hw
  rw [hp] at hw
  obtain ⟨i, -, hi⟩ := List.mem_filterMap.mp hw
  have hm : w ∈ big := by first | exact List.mem_of_getElem? hi | exact List.getElem?_mem hi
  exact ⟨hm, good_of_word h1⟩
theorem goodIn_app {big a b : List Cond} (ha : GoodIn big a) (hb : GoodIn big b) : GoodIn big (a ++ b) := fun w h => (List.mem_append.mp h).elim (ha w) (hb w)
theorem goodIn_ca {big a b : List Cond} {c : Cond} (ha : GoodIn big (c :: a)) (hb : GoodIn big b) : GoodIn big (c :: (a ++ b)) := fun w h => (List.mem_cons.mp h).elim (fun e => ha w (List.mem_cons.mpr (Or.inl e))) (fun h => (List.mem_append.mp h).elim (fun h => ha w (List.mem_cons.mpr (Or.inr h))) (hb w))
theorem goodIn_sub {big ws : List Cond} (hm : ∀ w ∈ ws, w ∈ big) (h : ws.all goodWord = true) : GoodIn big ws := fun w hw => ⟨hm w hw, good_of_word (List.all_eq_true.mp h w hw)⟩
/-! ===== END ===== -/

/-! ===== BEGIN printed: names, fields, word lists, decode rows ===== -/
def RX0 : String := "LightBursts$Book"
def TX0 : u_T := fun k => match k with
  | 0 => ("LightBursts$Book", "now", "I", false)
  | 1 => ("LightBursts$Book", "told", "I", false)
  | 2 => ("LightBursts$Book", "rules", "[I", true)
  | 3 => ("LightBursts$Book", "lengths", "[I", true)
  | _ => ("LightBursts$Book", "facts", "[I", true)
def tyX0 : Nat → FieldType := fun k => match k with
  | 0 => .int
  | 1 => .int
  | 2 => .array .int
  | 3 => .array .int
  | _ => .array .int
abbrev wsX00 : List Cond := u_ws RX0 TX0 5
theorem nmX0 : ∀ a, a < 5 → ∀ b, b < 5 → a ≠ b → (TX0 a).2.1 ≠ (TX0 b).2.1 := by decide +kernel
theorem tyX0_ok : ∀ k, k < 5 → parseFieldDescriptor (TX0 k).2.2.1 = some (tyX0 k) := by decide +kernel
abbrev cX0_init : ByteArray := prog_2_method_1_code
def yX0_init : MethodName := ⟨RX0, "<init>", "()V"⟩
abbrev cX0_copyFrom : ByteArray := prog_2_method_2_code
def yX0_copyFrom : MethodName := ⟨RX0, "copyFrom", "(LLightBursts$Book;)V"⟩
abbrev cX0_ruleNow : ByteArray := prog_2_method_3_code
def yX0_ruleNow : MethodName := ⟨RX0, "ruleNow", "(I)I"⟩
abbrev cX0_lengthNow : ByteArray := prog_2_method_4_code
def yX0_lengthNow : MethodName := ⟨RX0, "lengthNow", "(I)I"⟩
abbrev cX0_comingTick : ByteArray := prog_2_method_5_code
def yX0_comingTick : MethodName := ⟨RX0, "comingTick", "(II)I"⟩
abbrev cX0_fact : ByteArray := prog_2_method_6_code
def yX0_fact : MethodName := ⟨RX0, "fact", "(II)I"⟩
abbrev cX0_setFact : ByteArray := prog_2_method_7_code
def yX0_setFact : MethodName := ⟨RX0, "setFact", "(III)V"⟩
abbrev cX0_takeBack : ByteArray := prog_2_method_8_code
def yX0_takeBack : MethodName := ⟨RX0, "takeBack", "(I)V"⟩
abbrev cX0_showColour : ByteArray := prog_2_method_9_code
def yX0_showColour : MethodName := ⟨RX0, "showColour", "(IILLightBursts$Track;)V"⟩
abbrev cX0_showLine : ByteArray := prog_2_method_10_code
def yX0_showLine : MethodName := ⟨RX0, "showLine", "(ILLightBursts$Track;)V"⟩
abbrev cX0_isTallied : ByteArray := prog_2_method_11_code
def yX0_isTallied : MethodName := ⟨RX0, "isTallied", "(II)Z"⟩
abbrev cX0_burstsOfClass : ByteArray := prog_2_method_12_code
def yX0_burstsOfClass : MethodName := ⟨RX0, "burstsOfClass", "(I)I"⟩
abbrev cX0_sumOfClass : ByteArray := prog_2_method_13_code
def yX0_sumOfClass : MethodName := ⟨RX0, "sumOfClass", "(II)I"⟩
abbrev cX0_lostOfClass : ByteArray := prog_2_method_14_code
def yX0_lostOfClass : MethodName := ⟨RX0, "lostOfClass", "(I)I"⟩
abbrev cX0_burstsOfFate : ByteArray := prog_2_method_15_code
def yX0_burstsOfFate : MethodName := ⟨RX0, "burstsOfFate", "(I)I"⟩
abbrev cX0_burstsWith : ByteArray := prog_2_method_16_code
def yX0_burstsWith : MethodName := ⟨RX0, "burstsWith", "(I)I"⟩
abbrev cX0_burstsWhere : ByteArray := prog_2_method_17_code
def yX0_burstsWhere : MethodName := ⟨RX0, "burstsWhere", "(II)I"⟩
def RX1 : String := "LightBursts$Placer"
def TX1 : u_T := fun k => match k with
  | 0 => ("LightBursts$Placer", "book", "LLightBursts$Book;", true)
  | 1 => ("LightBursts$Placer", "track", "LLightBursts$Track;", true)
  | 2 => ("LightBursts$Placer", "out", "I", false)
  | 3 => ("LightBursts$Placer", "colour", "I", false)
  | 4 => ("LightBursts$Placer", "comes", "I", false)
  | 5 => ("LightBursts$Placer", "ticks", "I", false)
  | 6 => ("LightBursts$Placer", "fate", "I", false)
  | 7 => ("LightBursts$Placer", "bookedOn", "I", false)
  | 8 => ("LightBursts$Placer", "bookedFrom", "I", false)
  | 9 => ("LightBursts$Placer", "bookedTicks", "I", false)
  | _ => ("LightBursts$Placer", "byLine", "I", false)
def tyX1 : Nat → FieldType := fun k => match k with
  | 0 => .object "LightBursts$Book"
  | 1 => .object "LightBursts$Track"
  | 2 => .int
  | 3 => .int
  | 4 => .int
  | 5 => .int
  | 6 => .int
  | 7 => .int
  | 8 => .int
  | 9 => .int
  | _ => .int
abbrev wsX10 : List Cond := u_ws RX1 TX1 11
theorem nmX1 : ∀ a, a < 11 → ∀ b, b < 11 → a ≠ b → (TX1 a).2.1 ≠ (TX1 b).2.1 := by decide +kernel
theorem tyX1_ok : ∀ k, k < 11 → parseFieldDescriptor (TX1 k).2.2.1 = some (tyX1 k) := by decide +kernel
abbrev cX1_init : ByteArray := prog_3_method_1_code
def yX1_init : MethodName := ⟨RX1, "<init>", "(LLightBursts$Book;LLightBursts$Track;)V"⟩
abbrev cX1_place : ByteArray := prog_3_method_2_code
def yX1_place : MethodName := ⟨RX1, "place", "(IIII)V"⟩
abbrev cX1_writeTo : ByteArray := prog_3_method_3_code
def yX1_writeTo : MethodName := ⟨RX1, "writeTo", "(I)V"⟩
abbrev cX1_decide : ByteArray := prog_3_method_4_code
def yX1_decide : MethodName := ⟨RX1, "decide", "(IIIII)V"⟩
abbrev cX1_send : ByteArray := prog_3_method_5_code
def yX1_send : MethodName := ⟨RX1, "send", "()V"⟩
abbrev cX1_delay : ByteArray := prog_3_method_6_code
def yX1_delay : MethodName := ⟨RX1, "delay", "()V"⟩
abbrev cX1_cut : ByteArray := prog_3_method_7_code
def yX1_cut : MethodName := ⟨RX1, "cut", "()V"⟩
abbrev cX1_bestColour : ByteArray := prog_3_method_8_code
def yX1_bestColour : MethodName := ⟨RX1, "bestColour", "(I)I"⟩
abbrev cX1_isLineFree : ByteArray := prog_3_method_9_code
def yX1_isLineFree : MethodName := ⟨RX1, "isLineFree", "(I)Z"⟩
abbrev cX1_fillsVoids : ByteArray := prog_3_method_10_code
def yX1_fillsVoids : MethodName := ⟨RX1, "fillsVoids", "()Z"⟩
abbrev cX1_awayFrom : ByteArray := prog_3_method_11_code
def yX1_awayFrom : MethodName := ⟨RX1, "awayFrom", "(I)I"⟩
abbrev cX1_isNearer : ByteArray := prog_3_method_12_code
def yX1_isNearer : MethodName := ⟨RX1, "isNearer", "(II)Z"⟩
def RX2 : String := "LightBursts$Track"
def TX2 : u_T := fun k => match k with
  | 0 => ("LightBursts$Track", "size", "I", false)
  | 1 => ("LightBursts$Track", "bursts", "[I", true)
  | 2 => ("LightBursts$Track", "begins", "[I", true)
  | _ => ("LightBursts$Track", "ends", "[I", true)
def tyX2 : Nat → FieldType := fun k => match k with
  | 0 => .int
  | 1 => .array .int
  | 2 => .array .int
  | _ => .array .int
abbrev wsX20 : List Cond := u_ws RX2 TX2 4
theorem nmX2 : ∀ a, a < 4 → ∀ b, b < 4 → a ≠ b → (TX2 a).2.1 ≠ (TX2 b).2.1 := by decide +kernel
theorem tyX2_ok : ∀ k, k < 4 → parseFieldDescriptor (TX2 k).2.2.1 = some (tyX2 k) := by decide +kernel
abbrev cX2_init : ByteArray := prog_4_method_1_code
def yX2_init : MethodName := ⟨RX2, "<init>", "()V"⟩
abbrev cX2_clear : ByteArray := prog_4_method_2_code
def yX2_clear : MethodName := ⟨RX2, "clear", "()V"⟩
abbrev cX2_add : ByteArray := prog_4_method_3_code
def yX2_add : MethodName := ⟨RX2, "add", "(III)V"⟩
abbrev cX2_has : ByteArray := prog_4_method_4_code
def yX2_has : MethodName := ⟨RX2, "has", "(I)Z"⟩
abbrev cX2_begin : ByteArray := prog_4_method_5_code
def yX2_begin : MethodName := ⟨RX2, "begin", "(I)I"⟩
abbrev cX2_ticks : ByteArray := prog_4_method_6_code
def yX2_ticks : MethodName := ⟨RX2, "ticks", "(I)I"⟩
abbrev cX2_burstOf : ByteArray := prog_4_method_7_code
def yX2_burstOf : MethodName := ⟨RX2, "burstOf", "(I)I"⟩
abbrev cX2_lastEnd : ByteArray := prog_4_method_8_code
def yX2_lastEnd : MethodName := ⟨RX2, "lastEnd", "()I"⟩
abbrev cX2_lastEndUpTo : ByteArray := prog_4_method_9_code
def yX2_lastEndUpTo : MethodName := ⟨RX2, "lastEndUpTo", "(II)I"⟩
abbrev cX2_room : ByteArray := prog_4_method_10_code
def yX2_room : MethodName := ⟨RX2, "room", "(IIZ)I"⟩
abbrev cX2_isFree : ByteArray := prog_4_method_11_code
def yX2_isFree : MethodName := ⟨RX2, "isFree", "(IIZ)Z"⟩
abbrev cX2_pieceBegin : ByteArray := prog_4_method_12_code
def yX2_pieceBegin : MethodName := ⟨RX2, "pieceBegin", "(IIZ)I"⟩
abbrev cX2_bookedTicks : ByteArray := prog_4_method_13_code
def yX2_bookedTicks : MethodName := ⟨RX2, "bookedTicks", "(II)I"⟩
abbrev cX2_firstFree : ByteArray := prog_4_method_14_code
def yX2_firstFree : MethodName := ⟨RX2, "firstFree", "(II)I"⟩
abbrev cX2_voidBefore : ByteArray := prog_4_method_15_code
def yX2_voidBefore : MethodName := ⟨RX2, "voidBefore", "(II)I"⟩
abbrev cX2_closingOfVoid : ByteArray := prog_4_method_16_code
def yX2_closingOfVoid : MethodName := ⟨RX2, "closingOfVoid", "(II)I"⟩
def RX3 : String := "LightBursts"
def TX3 : u_T := fun k => match k with
  | 0 => ("LightBursts", "book", "LLightBursts$Book;", true)
  | 1 => ("LightBursts", "firstImage", "LLightBursts$Book;", true)
  | 2 => ("LightBursts", "secondImage", "LLightBursts$Book;", true)
  | 3 => ("LightBursts", "keptImages", "I", false)
  | 4 => ("LightBursts", "track", "LLightBursts$Track;", true)
  | _ => ("LightBursts", "placer", "LLightBursts$Placer;", true)
def tyX3 : Nat → FieldType := fun k => match k with
  | 0 => .object "LightBursts$Book"
  | 1 => .object "LightBursts$Book"
  | 2 => .object "LightBursts$Book"
  | 3 => .int
  | 4 => .object "LightBursts$Track"
  | _ => .object "LightBursts$Placer"
abbrev wsX30 : List Cond := u_ws RX3 TX3 6
theorem nmX3 : ∀ a, a < 6 → ∀ b, b < 6 → a ≠ b → (TX3 a).2.1 ≠ (TX3 b).2.1 := by decide +kernel
theorem tyX3_ok : ∀ k, k < 6 → parseFieldDescriptor (TX3 k).2.2.1 = some (tyX3 k) := by decide +kernel
abbrev cX3_init : ByteArray := prog_1_method_1_code
def yX3_init : MethodName := ⟨RX3, "<init>", "()V"⟩
abbrev cX3_rule : ByteArray := prog_1_method_2_code
def yX3_rule : MethodName := ⟨RX3, "rule", "(II)I"⟩
abbrev cX3_line : ByteArray := prog_1_method_3_code
def yX3_line : MethodName := ⟨RX3, "line", "(II)I"⟩
abbrev cX3_pass : ByteArray := prog_1_method_4_code
def yX3_pass : MethodName := ⟨RX3, "pass", "(I)I"⟩
abbrev cX3_tell : ByteArray := prog_1_method_5_code
def yX3_tell : MethodName := ⟨RX3, "tell", "(IIIII)I"⟩
abbrev cX3_would : ByteArray := prog_1_method_6_code
def yX3_would : MethodName := ⟨RX3, "would", "(IIIII)I"⟩
abbrev cX3_back : ByteArray := prog_1_method_7_code
def yX3_back : MethodName := ⟨RX3, "back", "(I)I"⟩
abbrev cX3_burst : ByteArray := prog_1_method_8_code
def yX3_burst : MethodName := ⟨RX3, "burst", "(II)I"⟩
abbrev cX3_booking : ByteArray := prog_1_method_9_code
def yX3_booking : MethodName := ⟨RX3, "booking", "(IIII)I"⟩
abbrev cX3_held : ByteArray := prog_1_method_10_code
def yX3_held : MethodName := ⟨RX3, "held", "(III)I"⟩
abbrev cX3_busy : ByteArray := prog_1_method_11_code
def yX3_busy : MethodName := ⟨RX3, "busy", "(IIII)I"⟩
abbrev cX3_free : ByteArray := prog_1_method_12_code
def yX3_free : MethodName := ⟨RX3, "free", "(III)I"⟩
abbrev cX3_next : ByteArray := prog_1_method_13_code
def yX3_next : MethodName := ⟨RX3, "next", "(IIII)I"⟩
abbrev cX3_hole : ByteArray := prog_1_method_14_code
def yX3_hole : MethodName := ⟨RX3, "hole", "(IIII)I"⟩
abbrev cX3_tally : ByteArray := prog_1_method_15_code
def yX3_tally : MethodName := ⟨RX3, "tally", "(II)I"⟩
abbrev cX3_count : ByteArray := prog_1_method_16_code
def yX3_count : MethodName := ⟨RX3, "count", "(I)I"⟩
abbrev cX3_image : ByteArray := prog_1_method_17_code
def yX3_image : MethodName := ⟨RX3, "image", "(I)I"⟩
abbrev cX3_restore : ByteArray := prog_1_method_18_code
def yX3_restore : MethodName := ⟨RX3, "restore", "(I)I"⟩
abbrev cX3_imageOf : ByteArray := prog_1_method_19_code
def yX3_imageOf : MethodName := ⟨RX3, "imageOf", "(I)LLightBursts$Book;"⟩
abbrev cX3_ofBooking : ByteArray := prog_1_method_20_code
def yX3_ofBooking : MethodName := ⟨RX3, "ofBooking", "(II)I"⟩
abbrev cX3_partLost : ByteArray := prog_1_method_21_code
def yX3_partLost : MethodName := ⟨RX3, "partLost", "(IZ)I"⟩
abbrev cX3_commonDivisor : ByteArray := prog_1_method_22_code
def yX3_commonDivisor : MethodName := ⟨RX3, "commonDivisor", "(II)I"⟩
abbrev cX3_refusalOfBurst : ByteArray := prog_1_method_23_code
def yX3_refusalOfBurst : MethodName := ⟨RX3, "refusalOfBurst", "(IIIII)I"⟩
abbrev cX3_isColour : ByteArray := prog_1_method_24_code
def yX3_isColour : MethodName := ⟨RX3, "isColour", "(II)Z"⟩
abbrev cX3_isSpan : ByteArray := prog_1_method_25_code
def yX3_isSpan : MethodName := ⟨RX3, "isSpan", "(II)Z"⟩
abbrev cX3_isBelow : ByteArray := prog_1_method_26_code
def yX3_isBelow : MethodName := ⟨RX3, "isBelow", "(II)Z"⟩
abbrev cX3_isWithin : ByteArray := prog_1_method_27_code
def yX3_isWithin : MethodName := ⟨RX3, "isWithin", "(III)Z"⟩
def RX4 : String := "LightBurstsModel"
def TX4 : u_T := fun k => match k with
  | 0 => ("LightBurstsModel", "state", "[I", true)
  | 1 => ("LightBurstsModel", "images", "[I", true)
  | 2 => ("LightBurstsModel", "isKept", "[Z", true)
  | 3 => ("LightBurstsModel", "fate", "I", false)
  | 4 => ("LightBurstsModel", "on", "I", false)
  | 5 => ("LightBurstsModel", "from", "I", false)
  | 6 => ("LightBurstsModel", "size", "I", false)
  | _ => ("LightBurstsModel", "by", "I", false)
def tyX4 : Nat → FieldType := fun k => match k with
  | 0 => .array .int
  | 1 => .array .int
  | 2 => .array .boolean
  | 3 => .int
  | 4 => .int
  | 5 => .int
  | 6 => .int
  | _ => .int
abbrev wsX40 : List Cond := u_ws RX4 TX4 8
theorem nmX4 : ∀ a, a < 8 → ∀ b, b < 8 → a ≠ b → (TX4 a).2.1 ≠ (TX4 b).2.1 := by decide +kernel
theorem tyX4_ok : ∀ k, k < 8 → parseFieldDescriptor (TX4 k).2.2.1 = some (tyX4 k) := by decide +kernel
abbrev cX4_init : ByteArray := prog_6_method_1_code
def yX4_init : MethodName := ⟨RX4, "<init>", "()V"⟩
abbrev cX4_in : ByteArray := prog_6_method_2_code
def yX4_in : MethodName := ⟨RX4, "in", "(III)Z"⟩
abbrev cX4_at : ByteArray := prog_6_method_3_code
def yX4_at : MethodName := ⟨RX4, "at", "(II)I"⟩
abbrev cX4_of : ByteArray := prog_6_method_4_code
def yX4_of : MethodName := ⟨RX4, "of", "(II)I"⟩
abbrev cX4_isBurst : ByteArray := prog_6_method_5_code
def yX4_isBurst : MethodName := ⟨RX4, "isBurst", "(I)Z"⟩
abbrev cX4_isOut : ByteArray := prog_6_method_6_code
def yX4_isOut : MethodName := ⟨RX4, "isOut", "(I)Z"⟩
abbrev cX4_isColour : ByteArray := prog_6_method_7_code
def yX4_isColour : MethodName := ⟨RX4, "isColour", "(I)Z"⟩
abbrev cX4_rule : ByteArray := prog_6_method_8_code
def yX4_rule : MethodName := ⟨RX4, "rule", "(II)I"⟩
abbrev cX4_isOnLine : ByteArray := prog_6_method_9_code
def yX4_isOnLine : MethodName := ⟨RX4, "isOnLine", "(II)Z"⟩
abbrev cX4_line : ByteArray := prog_6_method_10_code
def yX4_line : MethodName := ⟨RX4, "line", "(II)I"⟩
abbrev cX4_pass : ByteArray := prog_6_method_11_code
def yX4_pass : MethodName := ⟨RX4, "pass", "(I)I"⟩
abbrev cX4_isOn : ByteArray := prog_6_method_12_code
def yX4_isOn : MethodName := ⟨RX4, "isOn", "(III)Z"⟩
abbrev cX4_clash : ByteArray := prog_6_method_13_code
def yX4_clash : MethodName := ⟨RX4, "clash", "(IIII)Z"⟩
abbrev cX4_isClear : ByteArray := prog_6_method_14_code
def yX4_isClear : MethodName := ⟨RX4, "isClear", "(IIII)Z"⟩
abbrev cX4_isLast : ByteArray := prog_6_method_15_code
def yX4_isLast : MethodName := ⟨RX4, "isLast", "(III)Z"⟩
abbrev cX4_isFree : ByteArray := prog_6_method_16_code
def yX4_isFree : MethodName := ⟨RX4, "isFree", "(IIII)Z"⟩
abbrev cX4_gap : ByteArray := prog_6_method_17_code
def yX4_gap : MethodName := ⟨RX4, "gap", "(III)I"⟩
abbrev cX4_away : ByteArray := prog_6_method_18_code
def yX4_away : MethodName := ⟨RX4, "away", "(II)I"⟩
abbrev cX4_colourFor : ByteArray := prog_6_method_19_code
def yX4_colourFor : MethodName := ⟨RX4, "colourFor", "(IIII)I"⟩
abbrev cX4_isLineClear : ByteArray := prog_6_method_20_code
def yX4_isLineClear : MethodName := ⟨RX4, "isLineClear", "(III)Z"⟩
abbrev cX4_get : ByteArray := prog_6_method_21_code
def yX4_get : MethodName := ⟨RX4, "get", "(IIIII)V"⟩
abbrev cX4_lineFor : ByteArray := prog_6_method_22_code
def yX4_lineFor : MethodName := ⟨RX4, "lineFor", "(IIII)I"⟩
abbrev cX4_pieceOf : ByteArray := prog_6_method_23_code
def yX4_pieceOf : MethodName := ⟨RX4, "pieceOf", "(IIII)I"⟩
abbrev cX4_cut : ByteArray := prog_6_method_24_code
def yX4_cut : MethodName := ⟨RX4, "cut", "(IIII)V"⟩
abbrev cX4_place : ByteArray := prog_6_method_25_code
def yX4_place : MethodName := ⟨RX4, "place", "(IIII)V"⟩
abbrev cX4_comes : ByteArray := prog_6_method_26_code
def yX4_comes : MethodName := ⟨RX4, "comes", "(II)I"⟩
abbrev cX4_refusal : ByteArray := prog_6_method_27_code
def yX4_refusal : MethodName := ⟨RX4, "refusal", "(IIIII)I"⟩
abbrev cX4_tell : ByteArray := prog_6_method_28_code
def yX4_tell : MethodName := ⟨RX4, "tell", "(IIIII)I"⟩
abbrev cX4_would : ByteArray := prog_6_method_29_code
def yX4_would : MethodName := ⟨RX4, "would", "(IIIII)I"⟩
abbrev cX4_back : ByteArray := prog_6_method_30_code
def yX4_back : MethodName := ⟨RX4, "back", "(I)I"⟩
abbrev cX4_burst : ByteArray := prog_6_method_31_code
def yX4_burst : MethodName := ⟨RX4, "burst", "(II)I"⟩
abbrev cX4_bookingAt : ByteArray := prog_6_method_32_code
def yX4_bookingAt : MethodName := ⟨RX4, "bookingAt", "(III)I"⟩
abbrev cX4_beginOf : ByteArray := prog_6_method_33_code
def yX4_beginOf : MethodName := ⟨RX4, "beginOf", "(II)I"⟩
abbrev cX4_booking : ByteArray := prog_6_method_34_code
def yX4_booking : MethodName := ⟨RX4, "booking", "(IIII)I"⟩
abbrev cX4_held : ByteArray := prog_6_method_35_code
def yX4_held : MethodName := ⟨RX4, "held", "(III)I"⟩
abbrev cX4_isSpan : ByteArray := prog_6_method_36_code
def yX4_isSpan : MethodName := ⟨RX4, "isSpan", "(II)Z"⟩
abbrev cX4_busy : ByteArray := prog_6_method_37_code
def yX4_busy : MethodName := ⟨RX4, "busy", "(IIII)I"⟩
abbrev cX4_free : ByteArray := prog_6_method_38_code
def yX4_free : MethodName := ⟨RX4, "free", "(III)I"⟩
abbrev cX4_next : ByteArray := prog_6_method_39_code
def yX4_next : MethodName := ⟨RX4, "next", "(IIII)I"⟩
abbrev cX4_hole : ByteArray := prog_6_method_40_code
def yX4_hole : MethodName := ⟨RX4, "hole", "(IIII)I"⟩
abbrev cX4_common : ByteArray := prog_6_method_41_code
def yX4_common : MethodName := ⟨RX4, "common", "(II)I"⟩
abbrev cX4_tally : ByteArray := prog_6_method_42_code
def yX4_tally : MethodName := ⟨RX4, "tally", "(II)I"⟩
abbrev cX4_ofFate : ByteArray := prog_6_method_43_code
def yX4_ofFate : MethodName := ⟨RX4, "ofFate", "(I)I"⟩
abbrev cX4_count : ByteArray := prog_6_method_44_code
def yX4_count : MethodName := ⟨RX4, "count", "(I)I"⟩
abbrev cX4_image : ByteArray := prog_6_method_45_code
def yX4_image : MethodName := ⟨RX4, "image", "(I)I"⟩
abbrev cX4_restore : ByteArray := prog_6_method_46_code
def yX4_restore : MethodName := ⟨RX4, "restore", "(I)I"⟩
def RJx8e188 : String := "java/lang/Cloneable"
def TJx8e188 : u_T := fun k => match k with
  | _ => ("", "", "", false)
def tyJx8e188 : Nat → FieldType := fun k => match k with
  | _ => .int
abbrev wsJx8e1880 : List Cond := u_ws RJx8e188 TJx8e188 0
theorem nmJx8e188 : ∀ a, a < 0 → ∀ b, b < 0 → a ≠ b → (TJx8e188 a).2.1 ≠ (TJx8e188 b).2.1 := by decide +kernel
theorem tyJx8e188_ok : ∀ k, k < 0 → parseFieldDescriptor (TJx8e188 k).2.2.1 = some (tyJx8e188 k) := by decide +kernel
def RJ9 : String := "java/lang/Math"
def TJ9 : u_T := fun k => match k with
  | _ => ("", "", "", false)
def tyJ9 : Nat → FieldType := fun k => match k with
  | _ => .int
abbrev wsJ90 : List Cond := u_ws RJ9 TJ9 0
theorem nmJ9 : ∀ a, a < 0 → ∀ b, b < 0 → a ≠ b → (TJ9 a).2.1 ≠ (TJ9 b).2.1 := by decide +kernel
theorem tyJ9_ok : ∀ k, k < 0 → parseFieldDescriptor (TJ9 k).2.2.1 = some (tyJ9 k) := by decide +kernel
abbrev cJ9_abs_0f7a4 : ByteArray := prog_8_method_59_code
def yJ9_abs_0f7a4 : MethodName := ⟨RJ9, "abs", "(I)I"⟩
abbrev cJ9_max_7cf53 : ByteArray := prog_8_method_65_code
def yJ9_max_7cf53 : MethodName := ⟨RJ9, "max", "(II)I"⟩
abbrev cJ9_min_7cf53 : ByteArray := prog_8_method_69_code
def yJ9_min_7cf53 : MethodName := ⟨RJ9, "min", "(II)I"⟩
def RJ10 : String := "java/lang/System"
def TJ10 : u_T := fun k => match k with
  | _ => ("", "", "", false)
def tyJ10 : Nat → FieldType := fun k => match k with
  | _ => .int
abbrev wsJ100 : List Cond := u_ws RJ10 TJ10 0
theorem nmJ10 : ∀ a, a < 0 → ∀ b, b < 0 → a ≠ b → (TJ10 a).2.1 ≠ (TJ10 b).2.1 := by decide +kernel
theorem tyJ10_ok : ∀ k, k < 0 → parseFieldDescriptor (TJ10 k).2.2.1 = some (tyJ10 k) := by decide +kernel
def RL : String := "LightBurstsLaw"
abbrev cL_law : ByteArray := code
def yL_law : MethodName := ⟨RL, "law", "([I)Z"⟩
def wsX0_init : List Cond := .code yX0_init cX0_init 1 none :: ([.methodLink RX0 3 objectInit, .instanceMethod objectInit, .code objectInit ⟨#[0xb1]⟩ 1 none, .fieldLink RX0 9 "LightBursts$Book" "now" "I", .fieldLink RX0 15 "LightBursts$Book" "told" "I", .methodLink RX0 22 ⟨"[I", "clone", "()Ljava/lang/Object;"⟩, .sameMethod "[I" "java/lang/Object" "clone" "()Ljava/lang/Object;", .native ⟨"java/lang/Object", "clone", "()Ljava/lang/Object;"⟩, .instanceMethod ⟨"java/lang/Object", "clone", "()Ljava/lang/Object;"⟩, .selects "[I" ⟨"[I", "clone", "()Ljava/lang/Object;"⟩ ⟨"java/lang/Object", "clone", "()Ljava/lang/Object;"⟩, .classLink RX0 23 "[I", .fieldLink RX0 27 "LightBursts$Book" "rules" "[I", .arrayClass .int, .fieldLink RX0 30 "LightBursts$Book" "lengths" "[I", .fieldLink RX0 33 "LightBursts$Book" "facts" "[I"] ++ wsX00)
def wsX0_copyFrom : List Cond := .code yX0_copyFrom cX0_copyFrom 2 none :: ([.fieldLink RX0 9 "LightBursts$Book" "now" "I", .fieldLink RX0 15 "LightBursts$Book" "told" "I", .fieldLink RX0 27 "LightBursts$Book" "rules" "[I", .methodLink RX0 36 arraycopyName, .native arraycopyName, .static arraycopyName, .initialized "java/lang/System", .fieldLink RX0 30 "LightBursts$Book" "lengths" "[I", .fieldLink RX0 33 "LightBursts$Book" "facts" "[I"] ++ wsX00)
def wsX3_isBelow : List Cond := .code yX3_isBelow cX3_isBelow 2 (some .boolean) :: ([])
def wsX0_ruleNow : List Cond := .code yX0_ruleNow cX0_ruleNow 2 (some .int) :: ([.fieldLink RX0 27 "LightBursts$Book" "rules" "[I", .static yX3_isBelow, .initialized RX3, .code yX3_isBelow cX3_isBelow 2 (some .boolean)] ++ wsX00)
def wsX0_lengthNow : List Cond := .code yX0_lengthNow cX0_lengthNow 2 (some .int) :: ([.fieldLink RX0 30 "LightBursts$Book" "lengths" "[I", .static yX3_isBelow, .initialized RX3, .code yX3_isBelow cX3_isBelow 2 (some .boolean)] ++ wsX00)
def wsX0_comingTick : List Cond := .code yX0_comingTick cX0_comingTick 3 (some .int) :: ([.fieldLink RX0 9 "LightBursts$Book" "now" "I", .methodLink RX0 46 yX0_ruleNow, .instanceMethod yX0_ruleNow, .selects RX0 yX0_ruleNow yX0_ruleNow, .initialized RX0, .code yX0_ruleNow cX0_ruleNow 2 (some .int), .fieldLink RX0 27 "LightBursts$Book" "rules" "[I", .static yX3_isBelow, .initialized RX3, .code yX3_isBelow cX3_isBelow 2 (some .boolean)] ++ wsX00)
def wsX0_fact : List Cond := .code yX0_fact cX0_fact 4 (some .int) :: ([.fieldLink RX0 33 "LightBursts$Book" "facts" "[I", .static yX3_isBelow, .initialized RX3, .code yX3_isBelow cX3_isBelow 2 (some .boolean)] ++ wsX00)
def wsX0_setFact : List Cond := .code yX0_setFact cX0_setFact 5 none :: ([.fieldLink RX0 33 "LightBursts$Book" "facts" "[I", .static yX3_isBelow, .initialized RX3, .code yX3_isBelow cX3_isBelow 2 (some .boolean)] ++ wsX00)
def wsX0_takeBack : List Cond := .code yX0_takeBack cX0_takeBack 2 none :: ([.methodLink RX0 50 yX0_setFact, .instanceMethod yX0_setFact, .selects RX0 yX0_setFact yX0_setFact, .initialized RX0, .code yX0_setFact cX0_setFact 5 none, .fieldLink RX0 33 "LightBursts$Book" "facts" "[I", .static yX3_isBelow, .initialized RX3, .code yX3_isBelow cX3_isBelow 2 (some .boolean)] ++ wsX00)
def wsX2_clear : List Cond := .code yX2_clear cX2_clear 1 none :: ([.fieldLink RX2 9 "LightBursts$Track" "size" "I"] ++ wsX20)
def wsX2_add : List Cond := .code yX2_add cX2_add 5 none :: ([.fieldLink RX2 9 "LightBursts$Track" "size" "I", .fieldLink RX2 19 "LightBursts$Track" "begins" "[I", .fieldLink RX2 15 "LightBursts$Track" "bursts" "[I", .fieldLink RX2 22 "LightBursts$Track" "ends" "[I", .static yX3_isBelow, .initialized RX3, .code yX3_isBelow cX3_isBelow 2 (some .boolean)] ++ wsX20)
def wsX0_showColour : List Cond := .code yX0_showColour cX0_showColour 5 none :: ([.fieldLink RX0 15 "LightBursts$Book" "told" "I", .instanceMethod yX2_clear, .initialized RX2, .selects RX2 yX2_clear yX2_clear, .code yX2_clear cX2_clear 1 none, .fieldLink RX2 9 "LightBursts$Track" "size" "I", .methodLink RX0 59 yX0_fact, .instanceMethod yX0_fact, .selects RX0 yX0_fact yX0_fact, .initialized RX0, .code yX0_fact cX0_fact 4 (some .int), .fieldLink RX0 33 "LightBursts$Book" "facts" "[I", .static yX3_isBelow, .initialized RX3, .code yX3_isBelow cX3_isBelow 2 (some .boolean), .instanceMethod yX2_add, .selects RX2 yX2_add yX2_add, .code yX2_add cX2_add 5 none, .fieldLink RX2 19 "LightBursts$Track" "begins" "[I", .fieldLink RX2 15 "LightBursts$Track" "bursts" "[I", .fieldLink RX2 22 "LightBursts$Track" "ends" "[I"] ++ wsX00 ++ wsX20)
def wsX0_showLine : List Cond := .code yX0_showLine cX0_showLine 4 none :: ([.fieldLink RX0 15 "LightBursts$Book" "told" "I", .instanceMethod yX2_clear, .initialized RX2, .selects RX2 yX2_clear yX2_clear, .code yX2_clear cX2_clear 1 none, .fieldLink RX2 9 "LightBursts$Track" "size" "I", .methodLink RX0 59 yX0_fact, .instanceMethod yX0_fact, .selects RX0 yX0_fact yX0_fact, .initialized RX0, .code yX0_fact cX0_fact 4 (some .int), .fieldLink RX0 33 "LightBursts$Book" "facts" "[I", .static yX3_isBelow, .initialized RX3, .code yX3_isBelow cX3_isBelow 2 (some .boolean), .instanceMethod yX2_add, .selects RX2 yX2_add yX2_add, .code yX2_add cX2_add 5 none, .fieldLink RX2 19 "LightBursts$Track" "begins" "[I", .fieldLink RX2 15 "LightBursts$Track" "bursts" "[I", .fieldLink RX2 22 "LightBursts$Track" "ends" "[I"] ++ wsX00 ++ wsX20)
def wsX0_isTallied : List Cond := .code yX0_isTallied cX0_isTallied 3 (some .boolean) :: ([.methodLink RX0 59 yX0_fact, .instanceMethod yX0_fact, .selects RX0 yX0_fact yX0_fact, .initialized RX0, .code yX0_fact cX0_fact 4 (some .int), .fieldLink RX0 33 "LightBursts$Book" "facts" "[I", .static yX3_isBelow, .initialized RX3, .code yX3_isBelow cX3_isBelow 2 (some .boolean)] ++ wsX00)
def wsX0_burstsOfClass : List Cond := .code yX0_burstsOfClass cX0_burstsOfClass 4 (some .int) :: ([.fieldLink RX0 15 "LightBursts$Book" "told" "I", .methodLink RX0 66 yX0_isTallied, .instanceMethod yX0_isTallied, .selects RX0 yX0_isTallied yX0_isTallied, .initialized RX0, .code yX0_isTallied cX0_isTallied 3 (some .boolean), .methodLink RX0 59 yX0_fact, .instanceMethod yX0_fact, .selects RX0 yX0_fact yX0_fact, .code yX0_fact cX0_fact 4 (some .int), .fieldLink RX0 33 "LightBursts$Book" "facts" "[I", .static yX3_isBelow, .initialized RX3, .code yX3_isBelow cX3_isBelow 2 (some .boolean)] ++ wsX00)
def wsX0_sumOfClass : List Cond := .code yX0_sumOfClass cX0_sumOfClass 5 (some .int) :: ([.fieldLink RX0 15 "LightBursts$Book" "told" "I", .methodLink RX0 66 yX0_isTallied, .instanceMethod yX0_isTallied, .selects RX0 yX0_isTallied yX0_isTallied, .initialized RX0, .code yX0_isTallied cX0_isTallied 3 (some .boolean), .methodLink RX0 59 yX0_fact, .instanceMethod yX0_fact, .selects RX0 yX0_fact yX0_fact, .code yX0_fact cX0_fact 4 (some .int), .fieldLink RX0 33 "LightBursts$Book" "facts" "[I", .static yX3_isBelow, .initialized RX3, .code yX3_isBelow cX3_isBelow 2 (some .boolean)] ++ wsX00)
def wsX0_lostOfClass : List Cond := .code yX0_lostOfClass cX0_lostOfClass 4 (some .int) :: ([.fieldLink RX0 15 "LightBursts$Book" "told" "I", .methodLink RX0 59 yX0_fact, .instanceMethod yX0_fact, .selects RX0 yX0_fact yX0_fact, .initialized RX0, .code yX0_fact cX0_fact 4 (some .int), .fieldLink RX0 33 "LightBursts$Book" "facts" "[I", .static yX3_isBelow, .initialized RX3, .code yX3_isBelow cX3_isBelow 2 (some .boolean)] ++ wsX00)
def wsX0_burstsWhere : List Cond := .code yX0_burstsWhere cX0_burstsWhere 5 (some .int) :: ([.fieldLink RX0 15 "LightBursts$Book" "told" "I", .methodLink RX0 59 yX0_fact, .instanceMethod yX0_fact, .selects RX0 yX0_fact yX0_fact, .initialized RX0, .code yX0_fact cX0_fact 4 (some .int), .fieldLink RX0 33 "LightBursts$Book" "facts" "[I", .static yX3_isBelow, .initialized RX3, .code yX3_isBelow cX3_isBelow 2 (some .boolean)] ++ wsX00)
def wsX0_burstsOfFate : List Cond := .code yX0_burstsOfFate cX0_burstsOfFate 2 (some .int) :: ([.methodLink RX0 69 yX0_burstsWhere, .instanceMethod yX0_burstsWhere, .selects RX0 yX0_burstsWhere yX0_burstsWhere, .initialized RX0, .code yX0_burstsWhere cX0_burstsWhere 5 (some .int), .fieldLink RX0 15 "LightBursts$Book" "told" "I", .methodLink RX0 59 yX0_fact, .instanceMethod yX0_fact, .selects RX0 yX0_fact yX0_fact, .code yX0_fact cX0_fact 4 (some .int), .fieldLink RX0 33 "LightBursts$Book" "facts" "[I", .static yX3_isBelow, .initialized RX3, .code yX3_isBelow cX3_isBelow 2 (some .boolean)] ++ wsX00)
def wsX0_burstsWith : List Cond := .code yX0_burstsWith cX0_burstsWith 2 (some .int) :: ([.fieldLink RX0 15 "LightBursts$Book" "told" "I", .methodLink RX0 69 yX0_burstsWhere, .instanceMethod yX0_burstsWhere, .selects RX0 yX0_burstsWhere yX0_burstsWhere, .initialized RX0, .code yX0_burstsWhere cX0_burstsWhere 5 (some .int), .methodLink RX0 59 yX0_fact, .instanceMethod yX0_fact, .selects RX0 yX0_fact yX0_fact, .code yX0_fact cX0_fact 4 (some .int), .fieldLink RX0 33 "LightBursts$Book" "facts" "[I", .static yX3_isBelow, .initialized RX3, .code yX3_isBelow cX3_isBelow 2 (some .boolean)] ++ wsX00)
def wsX1_init : List Cond := .code yX1_init cX1_init 3 none :: ([.methodLink RX1 3 objectInit, .instanceMethod objectInit, .code objectInit ⟨#[0xb1]⟩ 1 none, .fieldLink RX1 9 "LightBursts$Placer" "out" "I", .fieldLink RX1 15 "LightBursts$Placer" "colour" "I", .fieldLink RX1 18 "LightBursts$Placer" "comes" "I", .fieldLink RX1 21 "LightBursts$Placer" "ticks" "I", .fieldLink RX1 24 "LightBursts$Placer" "fate" "I", .fieldLink RX1 27 "LightBursts$Placer" "bookedOn" "I", .fieldLink RX1 30 "LightBursts$Placer" "bookedFrom" "I", .fieldLink RX1 33 "LightBursts$Placer" "bookedTicks" "I", .fieldLink RX1 36 "LightBursts$Placer" "byLine" "I", .fieldLink RX1 39 "LightBursts$Placer" "book" "LLightBursts$Book;", .fieldLink RX1 43 "LightBursts$Placer" "track" "LLightBursts$Track;"] ++ wsX10)
def wsX1_decide : List Cond := .code yX1_decide cX1_decide 6 none :: ([.fieldLink RX1 24 "LightBursts$Placer" "fate" "I", .fieldLink RX1 27 "LightBursts$Placer" "bookedOn" "I", .fieldLink RX1 30 "LightBursts$Placer" "bookedFrom" "I", .fieldLink RX1 33 "LightBursts$Placer" "bookedTicks" "I", .fieldLink RX1 36 "LightBursts$Placer" "byLine" "I"] ++ wsX10)
def wsX1_awayFrom : List Cond := .code yX1_awayFrom cX1_awayFrom 2 (some .int) :: ([.fieldLink RX1 15 "LightBursts$Placer" "colour" "I", .methodLink RX1 119 Lib.Math.abs.name, .static Lib.Math.abs.name, .initialized "java/lang/Math", .code Lib.Math.abs.name Lib.Math.abs.code 1 (some .int)] ++ wsX10)
def wsX1_fillsVoids : List Cond := .code yX1_fillsVoids cX1_fillsVoids 1 (some .boolean) :: ([.fieldLink RX1 39 "LightBursts$Placer" "book" "LLightBursts$Book;", .instanceMethod yX0_ruleNow, .initialized RX0, .selects RX0 yX0_ruleNow yX0_ruleNow, .code yX0_ruleNow cX0_ruleNow 2 (some .int), .fieldLink RX0 27 "LightBursts$Book" "rules" "[I", .static yX3_isBelow, .initialized RX3, .code yX3_isBelow cX3_isBelow 2 (some .boolean)] ++ wsX10 ++ wsX00)
def wsX2_room : List Cond := .code yX2_room cX2_room 6 (some .int) :: ([.fieldLink RX2 9 "LightBursts$Track" "size" "I", .fieldLink RX2 22 "LightBursts$Track" "ends" "[I", .fieldLink RX2 19 "LightBursts$Track" "begins" "[I", .methodLink RX2 39 Lib.Math.min.name, .static Lib.Math.min.name, .initialized "java/lang/Math", .code Lib.Math.min.name Lib.Math.min.code 2 (some .int), .methodLink RX2 33 Lib.Math.max.name, .static Lib.Math.max.name, .code Lib.Math.max.name Lib.Math.max.code 2 (some .int)] ++ wsX20)
def wsX2_isFree : List Cond := .code yX2_isFree cX2_isFree 4 (some .boolean) :: ([.methodLink RX2 42 yX2_room, .instanceMethod yX2_room, .selects RX2 yX2_room yX2_room, .initialized RX2, .code yX2_room cX2_room 6 (some .int), .fieldLink RX2 9 "LightBursts$Track" "size" "I", .fieldLink RX2 22 "LightBursts$Track" "ends" "[I", .fieldLink RX2 19 "LightBursts$Track" "begins" "[I", .methodLink RX2 39 Lib.Math.min.name, .static Lib.Math.min.name, .initialized "java/lang/Math", .code Lib.Math.min.name Lib.Math.min.code 2 (some .int), .methodLink RX2 33 Lib.Math.max.name, .static Lib.Math.max.name, .code Lib.Math.max.name Lib.Math.max.code 2 (some .int)] ++ wsX20)
def wsX2_lastEndUpTo : List Cond := .code yX2_lastEndUpTo cX2_lastEndUpTo 5 (some .int) :: ([.fieldLink RX2 9 "LightBursts$Track" "size" "I", .fieldLink RX2 22 "LightBursts$Track" "ends" "[I", .methodLink RX2 33 Lib.Math.max.name, .static Lib.Math.max.name, .initialized "java/lang/Math", .code Lib.Math.max.name Lib.Math.max.code 2 (some .int)] ++ wsX20)
def wsX1_isNearer : List Cond := .code yX1_isNearer cX1_isNearer 3 (some .boolean) :: ([.methodLink RX1 80 yX1_awayFrom, .instanceMethod yX1_awayFrom, .selects RX1 yX1_awayFrom yX1_awayFrom, .initialized RX1, .code yX1_awayFrom cX1_awayFrom 2 (some .int), .fieldLink RX1 15 "LightBursts$Placer" "colour" "I", .methodLink RX1 119 Lib.Math.abs.name, .static Lib.Math.abs.name, .initialized "java/lang/Math", .code Lib.Math.abs.name Lib.Math.abs.code 1 (some .int)] ++ wsX10)
def wsX1_bestColour_r1 : List Cond := [Cond.fieldLink RX1 39 "LightBursts$Placer" "book" "LLightBursts$Book;", Cond.fieldLink RX1 9 "LightBursts$Placer" "out" "I", Cond.fieldLink RX1 43 "LightBursts$Placer" "track" "LLightBursts$Track;", Cond.fieldLink RX1 21 "LightBursts$Placer" "ticks" "I", Cond.methodLink RX1 80 yX1_awayFrom, Cond.instanceMethod yX1_awayFrom, Cond.selects RX1 yX1_awayFrom yX1_awayFrom, Cond.initialized RX1, Cond.code yX1_awayFrom cX1_awayFrom 2 (some .int), Cond.fieldLink RX1 15 "LightBursts$Placer" "colour" "I", Cond.methodLink RX1 119 Lib.Math.abs.name, Cond.static Lib.Math.abs.name, Cond.initialized "java/lang/Math", Cond.code Lib.Math.abs.name Lib.Math.abs.code 1 (some .int), Cond.instanceMethod yX0_ruleNow, Cond.initialized RX0, Cond.selects RX0 yX0_ruleNow yX0_ruleNow, Cond.code yX0_ruleNow cX0_ruleNow 2 (some .int), Cond.fieldLink RX0 27 "LightBursts$Book" "rules" "[I", Cond.static yX3_isBelow, Cond.initialized RX3, Cond.code yX3_isBelow cX3_isBelow 2 (some .boolean), Cond.instanceMethod yX0_showColour, Cond.selects RX0 yX0_showColour yX0_showColour]
def wsX1_bestColour_r2 : List Cond := [Cond.code yX0_showColour cX0_showColour 5 none, Cond.fieldLink RX0 15 "LightBursts$Book" "told" "I", Cond.instanceMethod yX2_clear, Cond.initialized RX2, Cond.selects RX2 yX2_clear yX2_clear, Cond.code yX2_clear cX2_clear 1 none, Cond.fieldLink RX2 9 "LightBursts$Track" "size" "I", Cond.methodLink RX0 59 yX0_fact, Cond.instanceMethod yX0_fact, Cond.selects RX0 yX0_fact yX0_fact, Cond.code yX0_fact cX0_fact 4 (some .int), Cond.fieldLink RX0 33 "LightBursts$Book" "facts" "[I", Cond.instanceMethod yX2_add, Cond.selects RX2 yX2_add yX2_add, Cond.code yX2_add cX2_add 5 none, Cond.fieldLink RX2 19 "LightBursts$Track" "begins" "[I", Cond.fieldLink RX2 15 "LightBursts$Track" "bursts" "[I", Cond.fieldLink RX2 22 "LightBursts$Track" "ends" "[I", Cond.methodLink RX1 87 yX1_fillsVoids, Cond.instanceMethod yX1_fillsVoids, Cond.selects RX1 yX1_fillsVoids yX1_fillsVoids, Cond.code yX1_fillsVoids cX1_fillsVoids 1 (some .boolean), Cond.instanceMethod yX2_isFree, Cond.selects RX2 yX2_isFree yX2_isFree]
def wsX1_bestColour_r3 : List Cond := [Cond.code yX2_isFree cX2_isFree 4 (some .boolean), Cond.methodLink RX2 42 yX2_room, Cond.instanceMethod yX2_room, Cond.selects RX2 yX2_room yX2_room, Cond.code yX2_room cX2_room 6 (some .int), Cond.methodLink RX2 39 Lib.Math.min.name, Cond.static Lib.Math.min.name, Cond.code Lib.Math.min.name Lib.Math.min.code 2 (some .int), Cond.methodLink RX2 33 Lib.Math.max.name, Cond.static Lib.Math.max.name, Cond.code Lib.Math.max.name Lib.Math.max.code 2 (some .int), Cond.instanceMethod yX2_lastEndUpTo, Cond.selects RX2 yX2_lastEndUpTo yX2_lastEndUpTo, Cond.code yX2_lastEndUpTo cX2_lastEndUpTo 5 (some .int), Cond.methodLink RX1 100 yX1_isNearer, Cond.instanceMethod yX1_isNearer, Cond.selects RX1 yX1_isNearer yX1_isNearer, Cond.code yX1_isNearer cX1_isNearer 3 (some .boolean)]
def wsX1_bestColour : List Cond := .code yX1_bestColour cX1_bestColour 6 (some .int) :: ((wsX1_bestColour_r1 ++ (wsX1_bestColour_r2 ++ wsX1_bestColour_r3)) ++ wsX10 ++ wsX00 ++ wsX20)
def wsX1_send_r1 : List Cond := [Cond.fieldLink RX1 18 "LightBursts$Placer" "comes" "I", Cond.fieldLink RX1 21 "LightBursts$Placer" "ticks" "I", Cond.methodLink RX1 70 yX1_bestColour, Cond.instanceMethod yX1_bestColour, Cond.selects RX1 yX1_bestColour yX1_bestColour, Cond.initialized RX1, Cond.code yX1_bestColour cX1_bestColour 6 (some .int), Cond.fieldLink RX1 39 "LightBursts$Placer" "book" "LLightBursts$Book;", Cond.fieldLink RX1 9 "LightBursts$Placer" "out" "I", Cond.fieldLink RX1 43 "LightBursts$Placer" "track" "LLightBursts$Track;", Cond.methodLink RX1 80 yX1_awayFrom, Cond.instanceMethod yX1_awayFrom, Cond.selects RX1 yX1_awayFrom yX1_awayFrom, Cond.code yX1_awayFrom cX1_awayFrom 2 (some .int), Cond.fieldLink RX1 15 "LightBursts$Placer" "colour" "I", Cond.methodLink RX1 119 Lib.Math.abs.name, Cond.static Lib.Math.abs.name, Cond.initialized "java/lang/Math", Cond.code Lib.Math.abs.name Lib.Math.abs.code 1 (some .int), Cond.instanceMethod yX0_ruleNow, Cond.initialized RX0, Cond.selects RX0 yX0_ruleNow yX0_ruleNow, Cond.code yX0_ruleNow cX0_ruleNow 2 (some .int), Cond.fieldLink RX0 27 "LightBursts$Book" "rules" "[I"]
def wsX1_send_r2 : List Cond := [Cond.static yX3_isBelow, Cond.initialized RX3, Cond.code yX3_isBelow cX3_isBelow 2 (some .boolean), Cond.instanceMethod yX0_showColour, Cond.selects RX0 yX0_showColour yX0_showColour, Cond.code yX0_showColour cX0_showColour 5 none, Cond.fieldLink RX0 15 "LightBursts$Book" "told" "I", Cond.instanceMethod yX2_clear, Cond.initialized RX2, Cond.selects RX2 yX2_clear yX2_clear, Cond.code yX2_clear cX2_clear 1 none, Cond.fieldLink RX2 9 "LightBursts$Track" "size" "I", Cond.methodLink RX0 59 yX0_fact, Cond.instanceMethod yX0_fact, Cond.selects RX0 yX0_fact yX0_fact, Cond.code yX0_fact cX0_fact 4 (some .int), Cond.fieldLink RX0 33 "LightBursts$Book" "facts" "[I", Cond.instanceMethod yX2_add, Cond.selects RX2 yX2_add yX2_add, Cond.code yX2_add cX2_add 5 none, Cond.fieldLink RX2 19 "LightBursts$Track" "begins" "[I", Cond.fieldLink RX2 15 "LightBursts$Track" "bursts" "[I", Cond.fieldLink RX2 22 "LightBursts$Track" "ends" "[I", Cond.methodLink RX1 87 yX1_fillsVoids]
def wsX1_send_r3 : List Cond := [Cond.instanceMethod yX1_fillsVoids, Cond.selects RX1 yX1_fillsVoids yX1_fillsVoids, Cond.code yX1_fillsVoids cX1_fillsVoids 1 (some .boolean), Cond.instanceMethod yX2_isFree, Cond.selects RX2 yX2_isFree yX2_isFree, Cond.code yX2_isFree cX2_isFree 4 (some .boolean), Cond.methodLink RX2 42 yX2_room, Cond.instanceMethod yX2_room, Cond.selects RX2 yX2_room yX2_room, Cond.code yX2_room cX2_room 6 (some .int), Cond.methodLink RX2 39 Lib.Math.min.name, Cond.static Lib.Math.min.name, Cond.code Lib.Math.min.name Lib.Math.min.code 2 (some .int), Cond.methodLink RX2 33 Lib.Math.max.name, Cond.static Lib.Math.max.name, Cond.code Lib.Math.max.name Lib.Math.max.code 2 (some .int), Cond.instanceMethod yX2_lastEndUpTo, Cond.selects RX2 yX2_lastEndUpTo yX2_lastEndUpTo, Cond.code yX2_lastEndUpTo cX2_lastEndUpTo 5 (some .int), Cond.methodLink RX1 100 yX1_isNearer, Cond.instanceMethod yX1_isNearer, Cond.selects RX1 yX1_isNearer yX1_isNearer, Cond.code yX1_isNearer cX1_isNearer 3 (some .boolean), Cond.methodLink RX1 47 yX1_decide]
def wsX1_send_r4 : List Cond := [Cond.instanceMethod yX1_decide, Cond.selects RX1 yX1_decide yX1_decide, Cond.code yX1_decide cX1_decide 6 none, Cond.fieldLink RX1 24 "LightBursts$Placer" "fate" "I", Cond.fieldLink RX1 27 "LightBursts$Placer" "bookedOn" "I", Cond.fieldLink RX1 30 "LightBursts$Placer" "bookedFrom" "I", Cond.fieldLink RX1 33 "LightBursts$Placer" "bookedTicks" "I", Cond.fieldLink RX1 36 "LightBursts$Placer" "byLine" "I"]
def wsX1_send : List Cond := .code yX1_send cX1_send 2 none :: ((wsX1_send_r1 ++ (wsX1_send_r2 ++ (wsX1_send_r3 ++ wsX1_send_r4))) ++ wsX10 ++ wsX00 ++ wsX20)
def wsX1_isLineFree_r1 : List Cond := [Cond.fieldLink RX1 39 "LightBursts$Placer" "book" "LLightBursts$Book;", Cond.fieldLink RX1 43 "LightBursts$Placer" "track" "LLightBursts$Track;", Cond.fieldLink RX1 18 "LightBursts$Placer" "comes" "I", Cond.fieldLink RX1 21 "LightBursts$Placer" "ticks" "I", Cond.instanceMethod yX0_showLine, Cond.initialized RX0, Cond.selects RX0 yX0_showLine yX0_showLine, Cond.code yX0_showLine cX0_showLine 4 none, Cond.fieldLink RX0 15 "LightBursts$Book" "told" "I", Cond.instanceMethod yX2_clear, Cond.initialized RX2, Cond.selects RX2 yX2_clear yX2_clear, Cond.code yX2_clear cX2_clear 1 none, Cond.fieldLink RX2 9 "LightBursts$Track" "size" "I", Cond.methodLink RX0 59 yX0_fact, Cond.instanceMethod yX0_fact, Cond.selects RX0 yX0_fact yX0_fact, Cond.code yX0_fact cX0_fact 4 (some .int), Cond.fieldLink RX0 33 "LightBursts$Book" "facts" "[I", Cond.static yX3_isBelow, Cond.initialized RX3, Cond.code yX3_isBelow cX3_isBelow 2 (some .boolean), Cond.instanceMethod yX2_add, Cond.selects RX2 yX2_add yX2_add]
def wsX1_isLineFree_r2 : List Cond := [Cond.code yX2_add cX2_add 5 none, Cond.fieldLink RX2 19 "LightBursts$Track" "begins" "[I", Cond.fieldLink RX2 15 "LightBursts$Track" "bursts" "[I", Cond.fieldLink RX2 22 "LightBursts$Track" "ends" "[I", Cond.instanceMethod yX2_isFree, Cond.selects RX2 yX2_isFree yX2_isFree, Cond.code yX2_isFree cX2_isFree 4 (some .boolean), Cond.methodLink RX2 42 yX2_room, Cond.instanceMethod yX2_room, Cond.selects RX2 yX2_room yX2_room, Cond.code yX2_room cX2_room 6 (some .int), Cond.methodLink RX2 39 Lib.Math.min.name, Cond.static Lib.Math.min.name, Cond.initialized "java/lang/Math", Cond.code Lib.Math.min.name Lib.Math.min.code 2 (some .int), Cond.methodLink RX2 33 Lib.Math.max.name, Cond.static Lib.Math.max.name, Cond.code Lib.Math.max.name Lib.Math.max.code 2 (some .int)]
def wsX1_isLineFree : List Cond := .code yX1_isLineFree cX1_isLineFree 2 (some .boolean) :: ((wsX1_isLineFree_r1 ++ wsX1_isLineFree_r2) ++ wsX10 ++ wsX00 ++ wsX20)
def wsX1_delay_r1 : List Cond := [Cond.fieldLink RX1 39 "LightBursts$Placer" "book" "LLightBursts$Book;", Cond.fieldLink RX1 18 "LightBursts$Placer" "comes" "I", Cond.fieldLink RX1 21 "LightBursts$Placer" "ticks" "I", Cond.instanceMethod yX0_lengthNow, Cond.initialized RX0, Cond.selects RX0 yX0_lengthNow yX0_lengthNow, Cond.code yX0_lengthNow cX0_lengthNow 2 (some .int), Cond.fieldLink RX0 30 "LightBursts$Book" "lengths" "[I", Cond.static yX3_isBelow, Cond.initialized RX3, Cond.code yX3_isBelow cX3_isBelow 2 (some .boolean), Cond.methodLink RX1 76 yX1_isLineFree, Cond.instanceMethod yX1_isLineFree, Cond.selects RX1 yX1_isLineFree yX1_isLineFree, Cond.initialized RX1, Cond.code yX1_isLineFree cX1_isLineFree 2 (some .boolean), Cond.fieldLink RX1 43 "LightBursts$Placer" "track" "LLightBursts$Track;", Cond.instanceMethod yX0_showLine, Cond.selects RX0 yX0_showLine yX0_showLine, Cond.code yX0_showLine cX0_showLine 4 none, Cond.fieldLink RX0 15 "LightBursts$Book" "told" "I", Cond.instanceMethod yX2_clear, Cond.initialized RX2, Cond.selects RX2 yX2_clear yX2_clear]
def wsX1_delay_r2 : List Cond := [Cond.code yX2_clear cX2_clear 1 none, Cond.fieldLink RX2 9 "LightBursts$Track" "size" "I", Cond.methodLink RX0 59 yX0_fact, Cond.instanceMethod yX0_fact, Cond.selects RX0 yX0_fact yX0_fact, Cond.code yX0_fact cX0_fact 4 (some .int), Cond.fieldLink RX0 33 "LightBursts$Book" "facts" "[I", Cond.instanceMethod yX2_add, Cond.selects RX2 yX2_add yX2_add, Cond.code yX2_add cX2_add 5 none, Cond.fieldLink RX2 19 "LightBursts$Track" "begins" "[I", Cond.fieldLink RX2 15 "LightBursts$Track" "bursts" "[I", Cond.fieldLink RX2 22 "LightBursts$Track" "ends" "[I", Cond.instanceMethod yX2_isFree, Cond.selects RX2 yX2_isFree yX2_isFree, Cond.code yX2_isFree cX2_isFree 4 (some .boolean), Cond.methodLink RX2 42 yX2_room, Cond.instanceMethod yX2_room, Cond.selects RX2 yX2_room yX2_room, Cond.code yX2_room cX2_room 6 (some .int), Cond.methodLink RX2 39 Lib.Math.min.name, Cond.static Lib.Math.min.name, Cond.initialized "java/lang/Math", Cond.code Lib.Math.min.name Lib.Math.min.code 2 (some .int)]
def wsX1_delay_r3 : List Cond := [Cond.methodLink RX2 33 Lib.Math.max.name, Cond.static Lib.Math.max.name, Cond.code Lib.Math.max.name Lib.Math.max.code 2 (some .int), Cond.methodLink RX1 70 yX1_bestColour, Cond.instanceMethod yX1_bestColour, Cond.selects RX1 yX1_bestColour yX1_bestColour, Cond.code yX1_bestColour cX1_bestColour 6 (some .int), Cond.fieldLink RX1 9 "LightBursts$Placer" "out" "I", Cond.methodLink RX1 80 yX1_awayFrom, Cond.instanceMethod yX1_awayFrom, Cond.selects RX1 yX1_awayFrom yX1_awayFrom, Cond.code yX1_awayFrom cX1_awayFrom 2 (some .int), Cond.fieldLink RX1 15 "LightBursts$Placer" "colour" "I", Cond.methodLink RX1 119 Lib.Math.abs.name, Cond.static Lib.Math.abs.name, Cond.code Lib.Math.abs.name Lib.Math.abs.code 1 (some .int), Cond.instanceMethod yX0_ruleNow, Cond.selects RX0 yX0_ruleNow yX0_ruleNow, Cond.code yX0_ruleNow cX0_ruleNow 2 (some .int), Cond.fieldLink RX0 27 "LightBursts$Book" "rules" "[I", Cond.instanceMethod yX0_showColour, Cond.selects RX0 yX0_showColour yX0_showColour, Cond.code yX0_showColour cX0_showColour 5 none, Cond.methodLink RX1 87 yX1_fillsVoids]
def wsX1_delay_r4 : List Cond := [Cond.instanceMethod yX1_fillsVoids, Cond.selects RX1 yX1_fillsVoids yX1_fillsVoids, Cond.code yX1_fillsVoids cX1_fillsVoids 1 (some .boolean), Cond.instanceMethod yX2_lastEndUpTo, Cond.selects RX2 yX2_lastEndUpTo yX2_lastEndUpTo, Cond.code yX2_lastEndUpTo cX2_lastEndUpTo 5 (some .int), Cond.methodLink RX1 100 yX1_isNearer, Cond.instanceMethod yX1_isNearer, Cond.selects RX1 yX1_isNearer yX1_isNearer, Cond.code yX1_isNearer cX1_isNearer 3 (some .boolean), Cond.methodLink RX1 47 yX1_decide, Cond.instanceMethod yX1_decide, Cond.selects RX1 yX1_decide yX1_decide, Cond.code yX1_decide cX1_decide 6 none, Cond.fieldLink RX1 24 "LightBursts$Placer" "fate" "I", Cond.fieldLink RX1 27 "LightBursts$Placer" "bookedOn" "I", Cond.fieldLink RX1 30 "LightBursts$Placer" "bookedFrom" "I", Cond.fieldLink RX1 33 "LightBursts$Placer" "bookedTicks" "I", Cond.fieldLink RX1 36 "LightBursts$Placer" "byLine" "I"]
def wsX1_delay : List Cond := .code yX1_delay cX1_delay 7 none :: ((wsX1_delay_r1 ++ (wsX1_delay_r2 ++ (wsX1_delay_r3 ++ wsX1_delay_r4))) ++ wsX10 ++ wsX00 ++ wsX20)
def wsX2_pieceBegin : List Cond := .code yX2_pieceBegin cX2_pieceBegin 8 (some .int) :: ([.fieldLink RX2 9 "LightBursts$Track" "size" "I", .fieldLink RX2 22 "LightBursts$Track" "ends" "[I", .methodLink RX2 42 yX2_room, .instanceMethod yX2_room, .selects RX2 yX2_room yX2_room, .initialized RX2, .code yX2_room cX2_room 6 (some .int), .fieldLink RX2 19 "LightBursts$Track" "begins" "[I", .methodLink RX2 39 Lib.Math.min.name, .static Lib.Math.min.name, .initialized "java/lang/Math", .code Lib.Math.min.name Lib.Math.min.code 2 (some .int), .methodLink RX2 33 Lib.Math.max.name, .static Lib.Math.max.name, .code Lib.Math.max.name Lib.Math.max.code 2 (some .int)] ++ wsX20)
def wsX1_cut_r1 : List Cond := [Cond.fieldLink RX1 18 "LightBursts$Placer" "comes" "I", Cond.fieldLink RX1 21 "LightBursts$Placer" "ticks" "I", Cond.fieldLink RX1 39 "LightBursts$Placer" "book" "LLightBursts$Book;", Cond.fieldLink RX1 9 "LightBursts$Placer" "out" "I", Cond.fieldLink RX1 43 "LightBursts$Placer" "track" "LLightBursts$Track;", Cond.methodLink RX1 80 yX1_awayFrom, Cond.instanceMethod yX1_awayFrom, Cond.selects RX1 yX1_awayFrom yX1_awayFrom, Cond.initialized RX1, Cond.code yX1_awayFrom cX1_awayFrom 2 (some .int), Cond.fieldLink RX1 15 "LightBursts$Placer" "colour" "I", Cond.methodLink RX1 119 Lib.Math.abs.name, Cond.static Lib.Math.abs.name, Cond.initialized "java/lang/Math", Cond.code Lib.Math.abs.name Lib.Math.abs.code 1 (some .int), Cond.instanceMethod yX0_ruleNow, Cond.initialized RX0, Cond.selects RX0 yX0_ruleNow yX0_ruleNow, Cond.code yX0_ruleNow cX0_ruleNow 2 (some .int), Cond.fieldLink RX0 27 "LightBursts$Book" "rules" "[I", Cond.static yX3_isBelow, Cond.initialized RX3, Cond.code yX3_isBelow cX3_isBelow 2 (some .boolean), Cond.instanceMethod yX0_showColour]
def wsX1_cut_r2 : List Cond := [Cond.selects RX0 yX0_showColour yX0_showColour, Cond.code yX0_showColour cX0_showColour 5 none, Cond.fieldLink RX0 15 "LightBursts$Book" "told" "I", Cond.instanceMethod yX2_clear, Cond.initialized RX2, Cond.selects RX2 yX2_clear yX2_clear, Cond.code yX2_clear cX2_clear 1 none, Cond.fieldLink RX2 9 "LightBursts$Track" "size" "I", Cond.methodLink RX0 59 yX0_fact, Cond.instanceMethod yX0_fact, Cond.selects RX0 yX0_fact yX0_fact, Cond.code yX0_fact cX0_fact 4 (some .int), Cond.fieldLink RX0 33 "LightBursts$Book" "facts" "[I", Cond.instanceMethod yX2_add, Cond.selects RX2 yX2_add yX2_add, Cond.code yX2_add cX2_add 5 none, Cond.fieldLink RX2 19 "LightBursts$Track" "begins" "[I", Cond.fieldLink RX2 15 "LightBursts$Track" "bursts" "[I", Cond.fieldLink RX2 22 "LightBursts$Track" "ends" "[I", Cond.methodLink RX1 87 yX1_fillsVoids, Cond.instanceMethod yX1_fillsVoids, Cond.selects RX1 yX1_fillsVoids yX1_fillsVoids, Cond.code yX1_fillsVoids cX1_fillsVoids 1 (some .boolean), Cond.instanceMethod yX2_pieceBegin]
def wsX1_cut_r3 : List Cond := [Cond.selects RX2 yX2_pieceBegin yX2_pieceBegin, Cond.code yX2_pieceBegin cX2_pieceBegin 8 (some .int), Cond.methodLink RX2 42 yX2_room, Cond.instanceMethod yX2_room, Cond.selects RX2 yX2_room yX2_room, Cond.code yX2_room cX2_room 6 (some .int), Cond.methodLink RX2 39 Lib.Math.min.name, Cond.static Lib.Math.min.name, Cond.code Lib.Math.min.name Lib.Math.min.code 2 (some .int), Cond.methodLink RX2 33 Lib.Math.max.name, Cond.static Lib.Math.max.name, Cond.code Lib.Math.max.name Lib.Math.max.code 2 (some .int), Cond.methodLink RX1 100 yX1_isNearer, Cond.instanceMethod yX1_isNearer, Cond.selects RX1 yX1_isNearer yX1_isNearer, Cond.code yX1_isNearer cX1_isNearer 3 (some .boolean), Cond.methodLink RX1 47 yX1_decide, Cond.instanceMethod yX1_decide, Cond.selects RX1 yX1_decide yX1_decide, Cond.code yX1_decide cX1_decide 6 none, Cond.fieldLink RX1 24 "LightBursts$Placer" "fate" "I", Cond.fieldLink RX1 27 "LightBursts$Placer" "bookedOn" "I", Cond.fieldLink RX1 30 "LightBursts$Placer" "bookedFrom" "I", Cond.fieldLink RX1 33 "LightBursts$Placer" "bookedTicks" "I"]
def wsX1_cut_r4 : List Cond := [Cond.fieldLink RX1 36 "LightBursts$Placer" "byLine" "I"]
def wsX1_cut : List Cond := .code yX1_cut cX1_cut 8 none :: ((wsX1_cut_r1 ++ (wsX1_cut_r2 ++ (wsX1_cut_r3 ++ wsX1_cut_r4))) ++ wsX10 ++ wsX00 ++ wsX20)
def wsX1_place_r1 : List Cond := [Cond.fieldLink RX1 9 "LightBursts$Placer" "out" "I", Cond.fieldLink RX1 15 "LightBursts$Placer" "colour" "I", Cond.fieldLink RX1 18 "LightBursts$Placer" "comes" "I", Cond.fieldLink RX1 21 "LightBursts$Placer" "ticks" "I", Cond.fieldLink RX1 24 "LightBursts$Placer" "fate" "I", Cond.fieldLink RX1 39 "LightBursts$Placer" "book" "LLightBursts$Book;", Cond.methodLink RX1 47 yX1_decide, Cond.instanceMethod yX1_decide, Cond.selects RX1 yX1_decide yX1_decide, Cond.initialized RX1, Cond.code yX1_decide cX1_decide 6 none, Cond.fieldLink RX1 27 "LightBursts$Placer" "bookedOn" "I", Cond.fieldLink RX1 30 "LightBursts$Placer" "bookedFrom" "I", Cond.fieldLink RX1 33 "LightBursts$Placer" "bookedTicks" "I", Cond.fieldLink RX1 36 "LightBursts$Placer" "byLine" "I", Cond.methodLink RX1 51 yX1_send, Cond.instanceMethod yX1_send, Cond.selects RX1 yX1_send yX1_send, Cond.code yX1_send cX1_send 2 none, Cond.methodLink RX1 70 yX1_bestColour, Cond.instanceMethod yX1_bestColour, Cond.selects RX1 yX1_bestColour yX1_bestColour, Cond.code yX1_bestColour cX1_bestColour 6 (some .int), Cond.fieldLink RX1 43 "LightBursts$Placer" "track" "LLightBursts$Track;"]
def wsX1_place_r2 : List Cond := [Cond.methodLink RX1 80 yX1_awayFrom, Cond.instanceMethod yX1_awayFrom, Cond.selects RX1 yX1_awayFrom yX1_awayFrom, Cond.code yX1_awayFrom cX1_awayFrom 2 (some .int), Cond.methodLink RX1 119 Lib.Math.abs.name, Cond.static Lib.Math.abs.name, Cond.initialized "java/lang/Math", Cond.code Lib.Math.abs.name Lib.Math.abs.code 1 (some .int), Cond.instanceMethod yX0_ruleNow, Cond.initialized RX0, Cond.selects RX0 yX0_ruleNow yX0_ruleNow, Cond.code yX0_ruleNow cX0_ruleNow 2 (some .int), Cond.fieldLink RX0 27 "LightBursts$Book" "rules" "[I", Cond.static yX3_isBelow, Cond.initialized RX3, Cond.code yX3_isBelow cX3_isBelow 2 (some .boolean), Cond.instanceMethod yX0_showColour, Cond.selects RX0 yX0_showColour yX0_showColour, Cond.code yX0_showColour cX0_showColour 5 none, Cond.fieldLink RX0 15 "LightBursts$Book" "told" "I", Cond.instanceMethod yX2_clear, Cond.initialized RX2, Cond.selects RX2 yX2_clear yX2_clear, Cond.code yX2_clear cX2_clear 1 none]
def wsX1_place_r3 : List Cond := [Cond.fieldLink RX2 9 "LightBursts$Track" "size" "I", Cond.methodLink RX0 59 yX0_fact, Cond.instanceMethod yX0_fact, Cond.selects RX0 yX0_fact yX0_fact, Cond.code yX0_fact cX0_fact 4 (some .int), Cond.fieldLink RX0 33 "LightBursts$Book" "facts" "[I", Cond.instanceMethod yX2_add, Cond.selects RX2 yX2_add yX2_add, Cond.code yX2_add cX2_add 5 none, Cond.fieldLink RX2 19 "LightBursts$Track" "begins" "[I", Cond.fieldLink RX2 15 "LightBursts$Track" "bursts" "[I", Cond.fieldLink RX2 22 "LightBursts$Track" "ends" "[I", Cond.methodLink RX1 87 yX1_fillsVoids, Cond.instanceMethod yX1_fillsVoids, Cond.selects RX1 yX1_fillsVoids yX1_fillsVoids, Cond.code yX1_fillsVoids cX1_fillsVoids 1 (some .boolean), Cond.instanceMethod yX2_isFree, Cond.selects RX2 yX2_isFree yX2_isFree, Cond.code yX2_isFree cX2_isFree 4 (some .boolean), Cond.methodLink RX2 42 yX2_room, Cond.instanceMethod yX2_room, Cond.selects RX2 yX2_room yX2_room, Cond.code yX2_room cX2_room 6 (some .int), Cond.methodLink RX2 39 Lib.Math.min.name]
def wsX1_place_r4 : List Cond := [Cond.static Lib.Math.min.name, Cond.code Lib.Math.min.name Lib.Math.min.code 2 (some .int), Cond.methodLink RX2 33 Lib.Math.max.name, Cond.static Lib.Math.max.name, Cond.code Lib.Math.max.name Lib.Math.max.code 2 (some .int), Cond.instanceMethod yX2_lastEndUpTo, Cond.selects RX2 yX2_lastEndUpTo yX2_lastEndUpTo, Cond.code yX2_lastEndUpTo cX2_lastEndUpTo 5 (some .int), Cond.methodLink RX1 100 yX1_isNearer, Cond.instanceMethod yX1_isNearer, Cond.selects RX1 yX1_isNearer yX1_isNearer, Cond.code yX1_isNearer cX1_isNearer 3 (some .boolean), Cond.methodLink RX1 54 yX1_delay, Cond.instanceMethod yX1_delay, Cond.selects RX1 yX1_delay yX1_delay, Cond.code yX1_delay cX1_delay 7 none, Cond.instanceMethod yX0_lengthNow, Cond.selects RX0 yX0_lengthNow yX0_lengthNow, Cond.code yX0_lengthNow cX0_lengthNow 2 (some .int), Cond.fieldLink RX0 30 "LightBursts$Book" "lengths" "[I", Cond.methodLink RX1 76 yX1_isLineFree, Cond.instanceMethod yX1_isLineFree, Cond.selects RX1 yX1_isLineFree yX1_isLineFree, Cond.code yX1_isLineFree cX1_isLineFree 2 (some .boolean)]
def wsX1_place_r5 : List Cond := [Cond.instanceMethod yX0_showLine, Cond.selects RX0 yX0_showLine yX0_showLine, Cond.code yX0_showLine cX0_showLine 4 none, Cond.methodLink RX1 63 yX1_cut, Cond.instanceMethod yX1_cut, Cond.selects RX1 yX1_cut yX1_cut, Cond.code yX1_cut cX1_cut 8 none, Cond.instanceMethod yX2_pieceBegin, Cond.selects RX2 yX2_pieceBegin yX2_pieceBegin, Cond.code yX2_pieceBegin cX2_pieceBegin 8 (some .int)]
def wsX1_place : List Cond := .code yX1_place cX1_place 5 none :: ((wsX1_place_r1 ++ (wsX1_place_r2 ++ (wsX1_place_r3 ++ (wsX1_place_r4 ++ wsX1_place_r5)))) ++ wsX10 ++ wsX00 ++ wsX20)
def wsX1_writeTo : List Cond := .code yX1_writeTo cX1_writeTo 2 none :: ([.fieldLink RX1 39 "LightBursts$Placer" "book" "LLightBursts$Book;", .fieldLink RX1 9 "LightBursts$Placer" "out" "I", .fieldLink RX1 15 "LightBursts$Placer" "colour" "I", .fieldLink RX1 18 "LightBursts$Placer" "comes" "I", .fieldLink RX1 21 "LightBursts$Placer" "ticks" "I", .fieldLink RX1 24 "LightBursts$Placer" "fate" "I", .fieldLink RX1 27 "LightBursts$Placer" "bookedOn" "I", .fieldLink RX1 30 "LightBursts$Placer" "bookedFrom" "I", .fieldLink RX1 33 "LightBursts$Placer" "bookedTicks" "I", .fieldLink RX1 36 "LightBursts$Placer" "byLine" "I", .instanceMethod yX0_setFact, .initialized RX0, .selects RX0 yX0_setFact yX0_setFact, .code yX0_setFact cX0_setFact 5 none, .fieldLink RX0 33 "LightBursts$Book" "facts" "[I", .static yX3_isBelow, .initialized RX3, .code yX3_isBelow cX3_isBelow 2 (some .boolean)] ++ wsX10 ++ wsX00)
def wsX2_init : List Cond := .code yX2_init cX2_init 1 none :: ([.methodLink RX2 3 objectInit, .instanceMethod objectInit, .code objectInit ⟨#[0xb1]⟩ 1 none, .fieldLink RX2 9 "LightBursts$Track" "size" "I", .arrayClass .int, .fieldLink RX2 15 "LightBursts$Track" "bursts" "[I", .fieldLink RX2 19 "LightBursts$Track" "begins" "[I", .fieldLink RX2 22 "LightBursts$Track" "ends" "[I"] ++ wsX20)
def wsX2_has : List Cond := .code yX2_has cX2_has 2 (some .boolean) :: ([.fieldLink RX2 9 "LightBursts$Track" "size" "I", .static yX3_isBelow, .initialized RX3, .code yX3_isBelow cX3_isBelow 2 (some .boolean)] ++ wsX20)
def wsX2_begin : List Cond := .code yX2_begin cX2_begin 2 (some .int) :: ([.fieldLink RX2 19 "LightBursts$Track" "begins" "[I", .methodLink RX2 29 yX2_has, .instanceMethod yX2_has, .selects RX2 yX2_has yX2_has, .initialized RX2, .code yX2_has cX2_has 2 (some .boolean), .fieldLink RX2 9 "LightBursts$Track" "size" "I", .static yX3_isBelow, .initialized RX3, .code yX3_isBelow cX3_isBelow 2 (some .boolean)] ++ wsX20)
def wsX2_ticks : List Cond := .code yX2_ticks cX2_ticks 2 (some .int) :: ([.fieldLink RX2 22 "LightBursts$Track" "ends" "[I", .fieldLink RX2 19 "LightBursts$Track" "begins" "[I", .methodLink RX2 29 yX2_has, .instanceMethod yX2_has, .selects RX2 yX2_has yX2_has, .initialized RX2, .code yX2_has cX2_has 2 (some .boolean), .fieldLink RX2 9 "LightBursts$Track" "size" "I", .static yX3_isBelow, .initialized RX3, .code yX3_isBelow cX3_isBelow 2 (some .boolean)] ++ wsX20)
def wsX2_burstOf : List Cond := .code yX2_burstOf cX2_burstOf 2 (some .int) :: ([.fieldLink RX2 15 "LightBursts$Track" "bursts" "[I", .methodLink RX2 29 yX2_has, .instanceMethod yX2_has, .selects RX2 yX2_has yX2_has, .initialized RX2, .code yX2_has cX2_has 2 (some .boolean), .fieldLink RX2 9 "LightBursts$Track" "size" "I", .static yX3_isBelow, .initialized RX3, .code yX3_isBelow cX3_isBelow 2 (some .boolean)] ++ wsX20)
def wsX2_lastEnd : List Cond := .code yX2_lastEnd cX2_lastEnd 1 (some .int) :: ([.fieldLink RX2 9 "LightBursts$Track" "size" "I", .fieldLink RX2 22 "LightBursts$Track" "ends" "[I", .methodLink RX2 29 yX2_has, .instanceMethod yX2_has, .selects RX2 yX2_has yX2_has, .initialized RX2, .code yX2_has cX2_has 2 (some .boolean), .static yX3_isBelow, .initialized RX3, .code yX3_isBelow cX3_isBelow 2 (some .boolean)] ++ wsX20)
def wsX2_bookedTicks : List Cond := .code yX2_bookedTicks cX2_bookedTicks 5 (some .int) :: ([.fieldLink RX2 9 "LightBursts$Track" "size" "I", .fieldLink RX2 22 "LightBursts$Track" "ends" "[I", .methodLink RX2 39 Lib.Math.min.name, .static Lib.Math.min.name, .initialized "java/lang/Math", .code Lib.Math.min.name Lib.Math.min.code 2 (some .int), .fieldLink RX2 19 "LightBursts$Track" "begins" "[I", .methodLink RX2 33 Lib.Math.max.name, .static Lib.Math.max.name, .code Lib.Math.max.name Lib.Math.max.code 2 (some .int)] ++ wsX20)
def wsX2_firstFree : List Cond := .code yX2_firstFree cX2_firstFree 5 (some .int) :: ([.fieldLink RX2 9 "LightBursts$Track" "size" "I", .fieldLink RX2 19 "LightBursts$Track" "begins" "[I", .fieldLink RX2 22 "LightBursts$Track" "ends" "[I"] ++ wsX20)
def wsX2_voidBefore : List Cond := .code yX2_voidBefore cX2_voidBefore 3 (some .int) :: ([.fieldLink RX2 22 "LightBursts$Track" "ends" "[I", .methodLink RX2 33 Lib.Math.max.name, .static Lib.Math.max.name, .initialized "java/lang/Math", .code Lib.Math.max.name Lib.Math.max.code 2 (some .int), .methodLink RX2 29 yX2_has, .instanceMethod yX2_has, .selects RX2 yX2_has yX2_has, .initialized RX2, .code yX2_has cX2_has 2 (some .boolean), .fieldLink RX2 9 "LightBursts$Track" "size" "I", .static yX3_isBelow, .initialized RX3, .code yX3_isBelow cX3_isBelow 2 (some .boolean)] ++ wsX20)
def wsX2_closingOfVoid : List Cond := .code yX2_closingOfVoid cX2_closingOfVoid 5 (some .int) :: ([.fieldLink RX2 9 "LightBursts$Track" "size" "I", .fieldLink RX2 19 "LightBursts$Track" "begins" "[I", .methodLink RX2 46 yX2_voidBefore, .instanceMethod yX2_voidBefore, .selects RX2 yX2_voidBefore yX2_voidBefore, .initialized RX2, .code yX2_voidBefore cX2_voidBefore 3 (some .int), .fieldLink RX2 22 "LightBursts$Track" "ends" "[I", .methodLink RX2 33 Lib.Math.max.name, .static Lib.Math.max.name, .initialized "java/lang/Math", .code Lib.Math.max.name Lib.Math.max.code 2 (some .int), .methodLink RX2 29 yX2_has, .instanceMethod yX2_has, .selects RX2 yX2_has yX2_has, .code yX2_has cX2_has 2 (some .boolean), .static yX3_isBelow, .initialized RX3, .code yX3_isBelow cX3_isBelow 2 (some .boolean)] ++ wsX20)
def wsX3_init_r1 : List Cond := [Cond.methodLink RX3 1 objectInit, Cond.instanceMethod objectInit, Cond.code objectInit ⟨#[0xb1]⟩ 1 none, Cond.classLink RX3 7 RX0, Cond.instantiable RX0 5, Cond.initialized RX0, Cond.fieldLink RX3 10 "LightBursts" "book" "LLightBursts$Book;", Cond.fieldLink RX3 16 "LightBursts" "firstImage" "LLightBursts$Book;", Cond.fieldLink RX3 19 "LightBursts" "secondImage" "LLightBursts$Book;", Cond.fieldLink RX3 22 "LightBursts" "keptImages" "I", Cond.classLink RX3 26 RX2, Cond.instantiable RX2 4, Cond.initialized RX2, Cond.fieldLink RX3 29 "LightBursts" "track" "LLightBursts$Track;", Cond.classLink RX3 33 RX1, Cond.instantiable RX1 11, Cond.initialized RX1, Cond.fieldLink RX3 38 "LightBursts" "placer" "LLightBursts$Placer;", Cond.instanceMethod yX0_init, Cond.code yX0_init cX0_init 1 none, Cond.methodLink RX0 3 objectInit, Cond.fieldLink RX0 9 "LightBursts$Book" "now" "I", Cond.fieldLink RX0 15 "LightBursts$Book" "told" "I", Cond.methodLink RX0 22 ⟨"[I", "clone", "()Ljava/lang/Object;"⟩]
def wsX3_init_r2 : List Cond := [Cond.sameMethod "[I" "java/lang/Object" "clone" "()Ljava/lang/Object;", Cond.native ⟨"java/lang/Object", "clone", "()Ljava/lang/Object;"⟩, Cond.instanceMethod ⟨"java/lang/Object", "clone", "()Ljava/lang/Object;"⟩, Cond.selects "[I" ⟨"[I", "clone", "()Ljava/lang/Object;"⟩ ⟨"java/lang/Object", "clone", "()Ljava/lang/Object;"⟩, Cond.classLink RX0 23 "[I", Cond.fieldLink RX0 27 "LightBursts$Book" "rules" "[I", Cond.arrayClass .int, Cond.fieldLink RX0 30 "LightBursts$Book" "lengths" "[I", Cond.fieldLink RX0 33 "LightBursts$Book" "facts" "[I", Cond.instanceMethod yX2_init, Cond.code yX2_init cX2_init 1 none, Cond.methodLink RX2 3 objectInit, Cond.fieldLink RX2 9 "LightBursts$Track" "size" "I", Cond.fieldLink RX2 15 "LightBursts$Track" "bursts" "[I", Cond.fieldLink RX2 19 "LightBursts$Track" "begins" "[I", Cond.fieldLink RX2 22 "LightBursts$Track" "ends" "[I", Cond.instanceMethod yX1_init, Cond.code yX1_init cX1_init 3 none, Cond.methodLink RX1 3 objectInit, Cond.fieldLink RX1 9 "LightBursts$Placer" "out" "I", Cond.fieldLink RX1 15 "LightBursts$Placer" "colour" "I", Cond.fieldLink RX1 18 "LightBursts$Placer" "comes" "I", Cond.fieldLink RX1 21 "LightBursts$Placer" "ticks" "I", Cond.fieldLink RX1 24 "LightBursts$Placer" "fate" "I"]
def wsX3_init_r3 : List Cond := [Cond.fieldLink RX1 27 "LightBursts$Placer" "bookedOn" "I", Cond.fieldLink RX1 30 "LightBursts$Placer" "bookedFrom" "I", Cond.fieldLink RX1 33 "LightBursts$Placer" "bookedTicks" "I", Cond.fieldLink RX1 36 "LightBursts$Placer" "byLine" "I", Cond.fieldLink RX1 39 "LightBursts$Placer" "book" "LLightBursts$Book;", Cond.fieldLink RX1 43 "LightBursts$Placer" "track" "LLightBursts$Track;"]
def wsX3_init : List Cond := .code yX3_init cX3_init 1 none :: ((wsX3_init_r1 ++ (wsX3_init_r2 ++ wsX3_init_r3)) ++ wsX00 ++ wsX30 ++ wsX20 ++ wsX10)
def wsX3_rule : List Cond := .code yX3_rule cX3_rule 4 (some .int) :: ([.fieldLink RX3 46 "LightBursts" "RULE_FROM" "[I", .fieldLink RX3 50 "LightBursts" "RULE_TO" "[I", .fieldLink RX3 10 "LightBursts" "book" "LLightBursts$Book;", .methodLink RX3 42 yX3_isBelow, .static yX3_isBelow, .initialized RX3, .code yX3_isBelow cX3_isBelow 2 (some .boolean)] ++ wsX30 ++ wsX00)
def wsX3_isWithin : List Cond := .code yX3_isWithin cX3_isWithin 3 (some .boolean) :: ([])
def wsX3_line_r1 : List Cond := [Cond.fieldLink RX3 10 "LightBursts" "book" "LLightBursts$Book;", Cond.fieldLink RX3 29 "LightBursts" "track" "LLightBursts$Track;", Cond.methodLink RX3 42 yX3_isBelow, Cond.static yX3_isBelow, Cond.initialized RX3, Cond.code yX3_isBelow cX3_isBelow 2 (some .boolean), Cond.methodLink RX3 56 yX3_isWithin, Cond.static yX3_isWithin, Cond.code yX3_isWithin cX3_isWithin 3 (some .boolean), Cond.instanceMethod yX0_showLine, Cond.initialized RX0, Cond.selects RX0 yX0_showLine yX0_showLine, Cond.code yX0_showLine cX0_showLine 4 none, Cond.fieldLink RX0 15 "LightBursts$Book" "told" "I", Cond.instanceMethod yX2_clear, Cond.initialized RX2, Cond.selects RX2 yX2_clear yX2_clear, Cond.code yX2_clear cX2_clear 1 none, Cond.fieldLink RX2 9 "LightBursts$Track" "size" "I", Cond.methodLink RX0 59 yX0_fact, Cond.instanceMethod yX0_fact, Cond.selects RX0 yX0_fact yX0_fact, Cond.code yX0_fact cX0_fact 4 (some .int), Cond.fieldLink RX0 33 "LightBursts$Book" "facts" "[I"]
def wsX3_line_r2 : List Cond := [Cond.instanceMethod yX2_add, Cond.selects RX2 yX2_add yX2_add, Cond.code yX2_add cX2_add 5 none, Cond.fieldLink RX2 19 "LightBursts$Track" "begins" "[I", Cond.fieldLink RX2 15 "LightBursts$Track" "bursts" "[I", Cond.fieldLink RX2 22 "LightBursts$Track" "ends" "[I", Cond.instanceMethod yX2_lastEnd, Cond.selects RX2 yX2_lastEnd yX2_lastEnd, Cond.code yX2_lastEnd cX2_lastEnd 1 (some .int), Cond.methodLink RX2 29 yX2_has, Cond.instanceMethod yX2_has, Cond.selects RX2 yX2_has yX2_has, Cond.code yX2_has cX2_has 2 (some .boolean)]
def wsX3_line : List Cond := .code yX3_line cX3_line 4 (some .int) :: ((wsX3_line_r1 ++ wsX3_line_r2) ++ wsX30 ++ wsX00 ++ wsX20)
def wsX3_pass : List Cond := .code yX3_pass cX3_pass 2 (some .int) :: ([.fieldLink RX3 10 "LightBursts" "book" "LLightBursts$Book;", .methodLink RX3 56 yX3_isWithin, .static yX3_isWithin, .initialized RX3, .code yX3_isWithin cX3_isWithin 3 (some .boolean)] ++ wsX30 ++ wsX00)
def wsX3_isColour : List Cond := .code yX3_isColour cX3_isColour 2 (some .boolean) :: ([.methodLink RX3 42 yX3_isBelow, .static yX3_isBelow, .initialized RX3, .code yX3_isBelow cX3_isBelow 2 (some .boolean)])
def wsX3_refusalOfBurst : List Cond := .code yX3_refusalOfBurst cX3_refusalOfBurst 5 (some .int) :: ([.methodLink RX3 106 yX3_isColour, .static yX3_isColour, .initialized RX3, .code yX3_isColour cX3_isColour 2 (some .boolean), .methodLink RX3 42 yX3_isBelow, .static yX3_isBelow, .code yX3_isBelow cX3_isBelow 2 (some .boolean), .methodLink RX3 56 yX3_isWithin, .static yX3_isWithin, .code yX3_isWithin cX3_isWithin 3 (some .boolean)])
def wsX3_tell_r1 : List Cond := [Cond.fieldLink RX3 10 "LightBursts" "book" "LLightBursts$Book;", Cond.fieldLink RX3 38 "LightBursts" "placer" "LLightBursts$Placer;", Cond.methodLink RX3 74 yX3_refusalOfBurst, Cond.static yX3_refusalOfBurst, Cond.initialized RX3, Cond.code yX3_refusalOfBurst cX3_refusalOfBurst 5 (some .int), Cond.methodLink RX3 106 yX3_isColour, Cond.static yX3_isColour, Cond.code yX3_isColour cX3_isColour 2 (some .boolean), Cond.methodLink RX3 42 yX3_isBelow, Cond.static yX3_isBelow, Cond.code yX3_isBelow cX3_isBelow 2 (some .boolean), Cond.methodLink RX3 56 yX3_isWithin, Cond.static yX3_isWithin, Cond.code yX3_isWithin cX3_isWithin 3 (some .boolean), Cond.instanceMethod yX0_comingTick, Cond.initialized RX0, Cond.selects RX0 yX0_comingTick yX0_comingTick, Cond.code yX0_comingTick cX0_comingTick 3 (some .int), Cond.fieldLink RX0 9 "LightBursts$Book" "now" "I", Cond.methodLink RX0 46 yX0_ruleNow, Cond.instanceMethod yX0_ruleNow, Cond.selects RX0 yX0_ruleNow yX0_ruleNow, Cond.code yX0_ruleNow cX0_ruleNow 2 (some .int)]
def wsX3_tell_r2 : List Cond := [Cond.fieldLink RX0 27 "LightBursts$Book" "rules" "[I", Cond.instanceMethod yX1_place, Cond.initialized RX1, Cond.selects RX1 yX1_place yX1_place, Cond.code yX1_place cX1_place 5 none, Cond.fieldLink RX1 9 "LightBursts$Placer" "out" "I", Cond.fieldLink RX1 15 "LightBursts$Placer" "colour" "I", Cond.fieldLink RX1 18 "LightBursts$Placer" "comes" "I", Cond.fieldLink RX1 21 "LightBursts$Placer" "ticks" "I", Cond.fieldLink RX1 24 "LightBursts$Placer" "fate" "I", Cond.fieldLink RX1 39 "LightBursts$Placer" "book" "LLightBursts$Book;", Cond.methodLink RX1 47 yX1_decide, Cond.instanceMethod yX1_decide, Cond.selects RX1 yX1_decide yX1_decide, Cond.code yX1_decide cX1_decide 6 none, Cond.fieldLink RX1 27 "LightBursts$Placer" "bookedOn" "I", Cond.fieldLink RX1 30 "LightBursts$Placer" "bookedFrom" "I", Cond.fieldLink RX1 33 "LightBursts$Placer" "bookedTicks" "I", Cond.fieldLink RX1 36 "LightBursts$Placer" "byLine" "I", Cond.methodLink RX1 51 yX1_send, Cond.instanceMethod yX1_send, Cond.selects RX1 yX1_send yX1_send, Cond.code yX1_send cX1_send 2 none, Cond.methodLink RX1 70 yX1_bestColour]
def wsX3_tell_r3 : List Cond := [Cond.instanceMethod yX1_bestColour, Cond.selects RX1 yX1_bestColour yX1_bestColour, Cond.code yX1_bestColour cX1_bestColour 6 (some .int), Cond.fieldLink RX1 43 "LightBursts$Placer" "track" "LLightBursts$Track;", Cond.methodLink RX1 80 yX1_awayFrom, Cond.instanceMethod yX1_awayFrom, Cond.selects RX1 yX1_awayFrom yX1_awayFrom, Cond.code yX1_awayFrom cX1_awayFrom 2 (some .int), Cond.methodLink RX1 119 Lib.Math.abs.name, Cond.static Lib.Math.abs.name, Cond.initialized "java/lang/Math", Cond.code Lib.Math.abs.name Lib.Math.abs.code 1 (some .int), Cond.instanceMethod yX0_showColour, Cond.selects RX0 yX0_showColour yX0_showColour, Cond.code yX0_showColour cX0_showColour 5 none, Cond.fieldLink RX0 15 "LightBursts$Book" "told" "I", Cond.instanceMethod yX2_clear, Cond.initialized RX2, Cond.selects RX2 yX2_clear yX2_clear, Cond.code yX2_clear cX2_clear 1 none, Cond.fieldLink RX2 9 "LightBursts$Track" "size" "I", Cond.methodLink RX0 59 yX0_fact, Cond.instanceMethod yX0_fact, Cond.selects RX0 yX0_fact yX0_fact]
def wsX3_tell_r4 : List Cond := [Cond.code yX0_fact cX0_fact 4 (some .int), Cond.fieldLink RX0 33 "LightBursts$Book" "facts" "[I", Cond.instanceMethod yX2_add, Cond.selects RX2 yX2_add yX2_add, Cond.code yX2_add cX2_add 5 none, Cond.fieldLink RX2 19 "LightBursts$Track" "begins" "[I", Cond.fieldLink RX2 15 "LightBursts$Track" "bursts" "[I", Cond.fieldLink RX2 22 "LightBursts$Track" "ends" "[I", Cond.methodLink RX1 87 yX1_fillsVoids, Cond.instanceMethod yX1_fillsVoids, Cond.selects RX1 yX1_fillsVoids yX1_fillsVoids, Cond.code yX1_fillsVoids cX1_fillsVoids 1 (some .boolean), Cond.instanceMethod yX2_isFree, Cond.selects RX2 yX2_isFree yX2_isFree, Cond.code yX2_isFree cX2_isFree 4 (some .boolean), Cond.methodLink RX2 42 yX2_room, Cond.instanceMethod yX2_room, Cond.selects RX2 yX2_room yX2_room, Cond.code yX2_room cX2_room 6 (some .int), Cond.methodLink RX2 39 Lib.Math.min.name, Cond.static Lib.Math.min.name, Cond.code Lib.Math.min.name Lib.Math.min.code 2 (some .int), Cond.methodLink RX2 33 Lib.Math.max.name, Cond.static Lib.Math.max.name]
def wsX3_tell_r5 : List Cond := [Cond.code Lib.Math.max.name Lib.Math.max.code 2 (some .int), Cond.instanceMethod yX2_lastEndUpTo, Cond.selects RX2 yX2_lastEndUpTo yX2_lastEndUpTo, Cond.code yX2_lastEndUpTo cX2_lastEndUpTo 5 (some .int), Cond.methodLink RX1 100 yX1_isNearer, Cond.instanceMethod yX1_isNearer, Cond.selects RX1 yX1_isNearer yX1_isNearer, Cond.code yX1_isNearer cX1_isNearer 3 (some .boolean), Cond.methodLink RX1 54 yX1_delay, Cond.instanceMethod yX1_delay, Cond.selects RX1 yX1_delay yX1_delay, Cond.code yX1_delay cX1_delay 7 none, Cond.instanceMethod yX0_lengthNow, Cond.selects RX0 yX0_lengthNow yX0_lengthNow, Cond.code yX0_lengthNow cX0_lengthNow 2 (some .int), Cond.fieldLink RX0 30 "LightBursts$Book" "lengths" "[I", Cond.methodLink RX1 76 yX1_isLineFree, Cond.instanceMethod yX1_isLineFree, Cond.selects RX1 yX1_isLineFree yX1_isLineFree, Cond.code yX1_isLineFree cX1_isLineFree 2 (some .boolean), Cond.instanceMethod yX0_showLine, Cond.selects RX0 yX0_showLine yX0_showLine, Cond.code yX0_showLine cX0_showLine 4 none, Cond.methodLink RX1 63 yX1_cut]
def wsX3_tell_r6 : List Cond := [Cond.instanceMethod yX1_cut, Cond.selects RX1 yX1_cut yX1_cut, Cond.code yX1_cut cX1_cut 8 none, Cond.instanceMethod yX2_pieceBegin, Cond.selects RX2 yX2_pieceBegin yX2_pieceBegin, Cond.code yX2_pieceBegin cX2_pieceBegin 8 (some .int), Cond.instanceMethod yX0_setFact, Cond.selects RX0 yX0_setFact yX0_setFact, Cond.code yX0_setFact cX0_setFact 5 none, Cond.instanceMethod yX1_writeTo, Cond.selects RX1 yX1_writeTo yX1_writeTo, Cond.code yX1_writeTo cX1_writeTo 2 none]
def wsX3_tell : List Cond := .code yX3_tell cX3_tell 8 (some .int) :: ((wsX3_tell_r1 ++ (wsX3_tell_r2 ++ (wsX3_tell_r3 ++ (wsX3_tell_r4 ++ (wsX3_tell_r5 ++ wsX3_tell_r6))))) ++ wsX30 ++ wsX00 ++ wsX10 ++ wsX20)
def wsX3_would_r1 : List Cond := [Cond.fieldLink RX3 38 "LightBursts" "placer" "LLightBursts$Placer;", Cond.fieldLink RX3 10 "LightBursts" "book" "LLightBursts$Book;", Cond.methodLink RX3 74 yX3_refusalOfBurst, Cond.static yX3_refusalOfBurst, Cond.initialized RX3, Cond.code yX3_refusalOfBurst cX3_refusalOfBurst 5 (some .int), Cond.methodLink RX3 106 yX3_isColour, Cond.static yX3_isColour, Cond.code yX3_isColour cX3_isColour 2 (some .boolean), Cond.methodLink RX3 42 yX3_isBelow, Cond.static yX3_isBelow, Cond.code yX3_isBelow cX3_isBelow 2 (some .boolean), Cond.methodLink RX3 56 yX3_isWithin, Cond.static yX3_isWithin, Cond.code yX3_isWithin cX3_isWithin 3 (some .boolean), Cond.instanceMethod yX0_comingTick, Cond.initialized RX0, Cond.selects RX0 yX0_comingTick yX0_comingTick, Cond.code yX0_comingTick cX0_comingTick 3 (some .int), Cond.fieldLink RX0 9 "LightBursts$Book" "now" "I", Cond.methodLink RX0 46 yX0_ruleNow, Cond.instanceMethod yX0_ruleNow, Cond.selects RX0 yX0_ruleNow yX0_ruleNow, Cond.code yX0_ruleNow cX0_ruleNow 2 (some .int)]
def wsX3_would_r2 : List Cond := [Cond.fieldLink RX0 27 "LightBursts$Book" "rules" "[I", Cond.instanceMethod yX1_place, Cond.initialized RX1, Cond.selects RX1 yX1_place yX1_place, Cond.code yX1_place cX1_place 5 none, Cond.fieldLink RX1 9 "LightBursts$Placer" "out" "I", Cond.fieldLink RX1 15 "LightBursts$Placer" "colour" "I", Cond.fieldLink RX1 18 "LightBursts$Placer" "comes" "I", Cond.fieldLink RX1 21 "LightBursts$Placer" "ticks" "I", Cond.fieldLink RX1 24 "LightBursts$Placer" "fate" "I", Cond.fieldLink RX1 39 "LightBursts$Placer" "book" "LLightBursts$Book;", Cond.methodLink RX1 47 yX1_decide, Cond.instanceMethod yX1_decide, Cond.selects RX1 yX1_decide yX1_decide, Cond.code yX1_decide cX1_decide 6 none, Cond.fieldLink RX1 27 "LightBursts$Placer" "bookedOn" "I", Cond.fieldLink RX1 30 "LightBursts$Placer" "bookedFrom" "I", Cond.fieldLink RX1 33 "LightBursts$Placer" "bookedTicks" "I", Cond.fieldLink RX1 36 "LightBursts$Placer" "byLine" "I", Cond.methodLink RX1 51 yX1_send, Cond.instanceMethod yX1_send, Cond.selects RX1 yX1_send yX1_send, Cond.code yX1_send cX1_send 2 none, Cond.methodLink RX1 70 yX1_bestColour]
def wsX3_would_r3 : List Cond := [Cond.instanceMethod yX1_bestColour, Cond.selects RX1 yX1_bestColour yX1_bestColour, Cond.code yX1_bestColour cX1_bestColour 6 (some .int), Cond.fieldLink RX1 43 "LightBursts$Placer" "track" "LLightBursts$Track;", Cond.methodLink RX1 80 yX1_awayFrom, Cond.instanceMethod yX1_awayFrom, Cond.selects RX1 yX1_awayFrom yX1_awayFrom, Cond.code yX1_awayFrom cX1_awayFrom 2 (some .int), Cond.methodLink RX1 119 Lib.Math.abs.name, Cond.static Lib.Math.abs.name, Cond.initialized "java/lang/Math", Cond.code Lib.Math.abs.name Lib.Math.abs.code 1 (some .int), Cond.instanceMethod yX0_showColour, Cond.selects RX0 yX0_showColour yX0_showColour, Cond.code yX0_showColour cX0_showColour 5 none, Cond.fieldLink RX0 15 "LightBursts$Book" "told" "I", Cond.instanceMethod yX2_clear, Cond.initialized RX2, Cond.selects RX2 yX2_clear yX2_clear, Cond.code yX2_clear cX2_clear 1 none, Cond.fieldLink RX2 9 "LightBursts$Track" "size" "I", Cond.methodLink RX0 59 yX0_fact, Cond.instanceMethod yX0_fact, Cond.selects RX0 yX0_fact yX0_fact]
def wsX3_would_r4 : List Cond := [Cond.code yX0_fact cX0_fact 4 (some .int), Cond.fieldLink RX0 33 "LightBursts$Book" "facts" "[I", Cond.instanceMethod yX2_add, Cond.selects RX2 yX2_add yX2_add, Cond.code yX2_add cX2_add 5 none, Cond.fieldLink RX2 19 "LightBursts$Track" "begins" "[I", Cond.fieldLink RX2 15 "LightBursts$Track" "bursts" "[I", Cond.fieldLink RX2 22 "LightBursts$Track" "ends" "[I", Cond.methodLink RX1 87 yX1_fillsVoids, Cond.instanceMethod yX1_fillsVoids, Cond.selects RX1 yX1_fillsVoids yX1_fillsVoids, Cond.code yX1_fillsVoids cX1_fillsVoids 1 (some .boolean), Cond.instanceMethod yX2_isFree, Cond.selects RX2 yX2_isFree yX2_isFree, Cond.code yX2_isFree cX2_isFree 4 (some .boolean), Cond.methodLink RX2 42 yX2_room, Cond.instanceMethod yX2_room, Cond.selects RX2 yX2_room yX2_room, Cond.code yX2_room cX2_room 6 (some .int), Cond.methodLink RX2 39 Lib.Math.min.name, Cond.static Lib.Math.min.name, Cond.code Lib.Math.min.name Lib.Math.min.code 2 (some .int), Cond.methodLink RX2 33 Lib.Math.max.name, Cond.static Lib.Math.max.name]
def wsX3_would_r5 : List Cond := [Cond.code Lib.Math.max.name Lib.Math.max.code 2 (some .int), Cond.instanceMethod yX2_lastEndUpTo, Cond.selects RX2 yX2_lastEndUpTo yX2_lastEndUpTo, Cond.code yX2_lastEndUpTo cX2_lastEndUpTo 5 (some .int), Cond.methodLink RX1 100 yX1_isNearer, Cond.instanceMethod yX1_isNearer, Cond.selects RX1 yX1_isNearer yX1_isNearer, Cond.code yX1_isNearer cX1_isNearer 3 (some .boolean), Cond.methodLink RX1 54 yX1_delay, Cond.instanceMethod yX1_delay, Cond.selects RX1 yX1_delay yX1_delay, Cond.code yX1_delay cX1_delay 7 none, Cond.instanceMethod yX0_lengthNow, Cond.selects RX0 yX0_lengthNow yX0_lengthNow, Cond.code yX0_lengthNow cX0_lengthNow 2 (some .int), Cond.fieldLink RX0 30 "LightBursts$Book" "lengths" "[I", Cond.methodLink RX1 76 yX1_isLineFree, Cond.instanceMethod yX1_isLineFree, Cond.selects RX1 yX1_isLineFree yX1_isLineFree, Cond.code yX1_isLineFree cX1_isLineFree 2 (some .boolean), Cond.instanceMethod yX0_showLine, Cond.selects RX0 yX0_showLine yX0_showLine, Cond.code yX0_showLine cX0_showLine 4 none, Cond.methodLink RX1 63 yX1_cut]
def wsX3_would_r6 : List Cond := [Cond.instanceMethod yX1_cut, Cond.selects RX1 yX1_cut yX1_cut, Cond.code yX1_cut cX1_cut 8 none, Cond.instanceMethod yX2_pieceBegin, Cond.selects RX2 yX2_pieceBegin yX2_pieceBegin, Cond.code yX2_pieceBegin cX2_pieceBegin 8 (some .int)]
def wsX3_would : List Cond := .code yX3_would cX3_would 7 (some .int) :: ((wsX3_would_r1 ++ (wsX3_would_r2 ++ (wsX3_would_r3 ++ (wsX3_would_r4 ++ (wsX3_would_r5 ++ wsX3_would_r6))))) ++ wsX30 ++ wsX10 ++ wsX00 ++ wsX20)
def wsX3_back : List Cond := .code yX3_back cX3_back 3 (some .int) :: ([.fieldLink RX3 10 "LightBursts" "book" "LLightBursts$Book;", .methodLink RX3 42 yX3_isBelow, .static yX3_isBelow, .initialized RX3, .code yX3_isBelow cX3_isBelow 2 (some .boolean), .instanceMethod yX0_fact, .initialized RX0, .selects RX0 yX0_fact yX0_fact, .code yX0_fact cX0_fact 4 (some .int), .fieldLink RX0 33 "LightBursts$Book" "facts" "[I", .instanceMethod yX0_takeBack, .selects RX0 yX0_takeBack yX0_takeBack, .code yX0_takeBack cX0_takeBack 2 none, .methodLink RX0 50 yX0_setFact, .instanceMethod yX0_setFact, .selects RX0 yX0_setFact yX0_setFact, .code yX0_setFact cX0_setFact 5 none] ++ wsX30 ++ wsX00)
def wsX3_burst : List Cond := .code yX3_burst cX3_burst 3 (some .int) :: ([.fieldLink RX3 10 "LightBursts" "book" "LLightBursts$Book;", .methodLink RX3 42 yX3_isBelow, .static yX3_isBelow, .initialized RX3, .code yX3_isBelow cX3_isBelow 2 (some .boolean), .instanceMethod yX0_fact, .initialized RX0, .selects RX0 yX0_fact yX0_fact, .code yX0_fact cX0_fact 4 (some .int), .fieldLink RX0 33 "LightBursts$Book" "facts" "[I"] ++ wsX30 ++ wsX00)
def wsX3_ofBooking : List Cond := .code yX3_ofBooking cX3_ofBooking 3 (some .int) :: ([.fieldLink RX3 29 "LightBursts" "track" "LLightBursts$Track;", .instanceMethod yX2_begin, .initialized RX2, .selects RX2 yX2_begin yX2_begin, .code yX2_begin cX2_begin 2 (some .int), .fieldLink RX2 19 "LightBursts$Track" "begins" "[I", .methodLink RX2 29 yX2_has, .instanceMethod yX2_has, .selects RX2 yX2_has yX2_has, .code yX2_has cX2_has 2 (some .boolean), .fieldLink RX2 9 "LightBursts$Track" "size" "I", .static yX3_isBelow, .initialized RX3, .code yX3_isBelow cX3_isBelow 2 (some .boolean), .instanceMethod yX2_ticks, .selects RX2 yX2_ticks yX2_ticks, .code yX2_ticks cX2_ticks 2 (some .int), .fieldLink RX2 22 "LightBursts$Track" "ends" "[I", .instanceMethod yX2_burstOf, .selects RX2 yX2_burstOf yX2_burstOf, .code yX2_burstOf cX2_burstOf 2 (some .int), .fieldLink RX2 15 "LightBursts$Track" "bursts" "[I"] ++ wsX30 ++ wsX20)
def wsX3_booking_r1 : List Cond := [Cond.fieldLink RX3 10 "LightBursts" "book" "LLightBursts$Book;", Cond.fieldLink RX3 29 "LightBursts" "track" "LLightBursts$Track;", Cond.methodLink RX3 106 yX3_isColour, Cond.static yX3_isColour, Cond.initialized RX3, Cond.code yX3_isColour cX3_isColour 2 (some .boolean), Cond.methodLink RX3 42 yX3_isBelow, Cond.static yX3_isBelow, Cond.code yX3_isBelow cX3_isBelow 2 (some .boolean), Cond.instanceMethod yX0_showColour, Cond.initialized RX0, Cond.selects RX0 yX0_showColour yX0_showColour, Cond.code yX0_showColour cX0_showColour 5 none, Cond.fieldLink RX0 15 "LightBursts$Book" "told" "I", Cond.instanceMethod yX2_clear, Cond.initialized RX2, Cond.selects RX2 yX2_clear yX2_clear, Cond.code yX2_clear cX2_clear 1 none, Cond.fieldLink RX2 9 "LightBursts$Track" "size" "I", Cond.methodLink RX0 59 yX0_fact, Cond.instanceMethod yX0_fact, Cond.selects RX0 yX0_fact yX0_fact, Cond.code yX0_fact cX0_fact 4 (some .int), Cond.fieldLink RX0 33 "LightBursts$Book" "facts" "[I"]
def wsX3_booking_r2 : List Cond := [Cond.instanceMethod yX2_add, Cond.selects RX2 yX2_add yX2_add, Cond.code yX2_add cX2_add 5 none, Cond.fieldLink RX2 19 "LightBursts$Track" "begins" "[I", Cond.fieldLink RX2 15 "LightBursts$Track" "bursts" "[I", Cond.fieldLink RX2 22 "LightBursts$Track" "ends" "[I", Cond.methodLink RX3 113 yX3_ofBooking, Cond.instanceMethod yX3_ofBooking, Cond.selects RX3 yX3_ofBooking yX3_ofBooking, Cond.code yX3_ofBooking cX3_ofBooking 3 (some .int), Cond.instanceMethod yX2_begin, Cond.selects RX2 yX2_begin yX2_begin, Cond.code yX2_begin cX2_begin 2 (some .int), Cond.methodLink RX2 29 yX2_has, Cond.instanceMethod yX2_has, Cond.selects RX2 yX2_has yX2_has, Cond.code yX2_has cX2_has 2 (some .boolean), Cond.instanceMethod yX2_ticks, Cond.selects RX2 yX2_ticks yX2_ticks, Cond.code yX2_ticks cX2_ticks 2 (some .int), Cond.instanceMethod yX2_burstOf, Cond.selects RX2 yX2_burstOf yX2_burstOf, Cond.code yX2_burstOf cX2_burstOf 2 (some .int)]
def wsX3_booking : List Cond := .code yX3_booking cX3_booking 5 (some .int) :: ((wsX3_booking_r1 ++ wsX3_booking_r2) ++ wsX30 ++ wsX00 ++ wsX20)
def wsX3_held_r1 : List Cond := [Cond.fieldLink RX3 10 "LightBursts" "book" "LLightBursts$Book;", Cond.fieldLink RX3 29 "LightBursts" "track" "LLightBursts$Track;", Cond.methodLink RX3 42 yX3_isBelow, Cond.static yX3_isBelow, Cond.initialized RX3, Cond.code yX3_isBelow cX3_isBelow 2 (some .boolean), Cond.instanceMethod yX0_showLine, Cond.initialized RX0, Cond.selects RX0 yX0_showLine yX0_showLine, Cond.code yX0_showLine cX0_showLine 4 none, Cond.fieldLink RX0 15 "LightBursts$Book" "told" "I", Cond.instanceMethod yX2_clear, Cond.initialized RX2, Cond.selects RX2 yX2_clear yX2_clear, Cond.code yX2_clear cX2_clear 1 none, Cond.fieldLink RX2 9 "LightBursts$Track" "size" "I", Cond.methodLink RX0 59 yX0_fact, Cond.instanceMethod yX0_fact, Cond.selects RX0 yX0_fact yX0_fact, Cond.code yX0_fact cX0_fact 4 (some .int), Cond.fieldLink RX0 33 "LightBursts$Book" "facts" "[I", Cond.instanceMethod yX2_add, Cond.selects RX2 yX2_add yX2_add, Cond.code yX2_add cX2_add 5 none]
def wsX3_held_r2 : List Cond := [Cond.fieldLink RX2 19 "LightBursts$Track" "begins" "[I", Cond.fieldLink RX2 15 "LightBursts$Track" "bursts" "[I", Cond.fieldLink RX2 22 "LightBursts$Track" "ends" "[I", Cond.methodLink RX3 113 yX3_ofBooking, Cond.instanceMethod yX3_ofBooking, Cond.selects RX3 yX3_ofBooking yX3_ofBooking, Cond.code yX3_ofBooking cX3_ofBooking 3 (some .int), Cond.instanceMethod yX2_begin, Cond.selects RX2 yX2_begin yX2_begin, Cond.code yX2_begin cX2_begin 2 (some .int), Cond.methodLink RX2 29 yX2_has, Cond.instanceMethod yX2_has, Cond.selects RX2 yX2_has yX2_has, Cond.code yX2_has cX2_has 2 (some .boolean), Cond.instanceMethod yX2_ticks, Cond.selects RX2 yX2_ticks yX2_ticks, Cond.code yX2_ticks cX2_ticks 2 (some .int), Cond.instanceMethod yX2_burstOf, Cond.selects RX2 yX2_burstOf yX2_burstOf, Cond.code yX2_burstOf cX2_burstOf 2 (some .int)]
def wsX3_held : List Cond := .code yX3_held cX3_held 4 (some .int) :: ((wsX3_held_r1 ++ wsX3_held_r2) ++ wsX30 ++ wsX00 ++ wsX20)
def wsX3_isSpan : List Cond := .code yX3_isSpan cX3_isSpan 2 (some .boolean) :: ([.methodLink RX3 56 yX3_isWithin, .static yX3_isWithin, .initialized RX3, .code yX3_isWithin cX3_isWithin 3 (some .boolean)])
def wsX3_busy_r1 : List Cond := [Cond.fieldLink RX3 10 "LightBursts" "book" "LLightBursts$Book;", Cond.fieldLink RX3 29 "LightBursts" "track" "LLightBursts$Track;", Cond.methodLink RX3 106 yX3_isColour, Cond.static yX3_isColour, Cond.initialized RX3, Cond.code yX3_isColour cX3_isColour 2 (some .boolean), Cond.methodLink RX3 42 yX3_isBelow, Cond.static yX3_isBelow, Cond.code yX3_isBelow cX3_isBelow 2 (some .boolean), Cond.methodLink RX3 116 yX3_isSpan, Cond.static yX3_isSpan, Cond.code yX3_isSpan cX3_isSpan 2 (some .boolean), Cond.methodLink RX3 56 yX3_isWithin, Cond.static yX3_isWithin, Cond.code yX3_isWithin cX3_isWithin 3 (some .boolean), Cond.instanceMethod yX0_showColour, Cond.initialized RX0, Cond.selects RX0 yX0_showColour yX0_showColour, Cond.code yX0_showColour cX0_showColour 5 none, Cond.fieldLink RX0 15 "LightBursts$Book" "told" "I", Cond.instanceMethod yX2_clear, Cond.initialized RX2, Cond.selects RX2 yX2_clear yX2_clear, Cond.code yX2_clear cX2_clear 1 none]
def wsX3_busy_r2 : List Cond := [Cond.fieldLink RX2 9 "LightBursts$Track" "size" "I", Cond.methodLink RX0 59 yX0_fact, Cond.instanceMethod yX0_fact, Cond.selects RX0 yX0_fact yX0_fact, Cond.code yX0_fact cX0_fact 4 (some .int), Cond.fieldLink RX0 33 "LightBursts$Book" "facts" "[I", Cond.instanceMethod yX2_add, Cond.selects RX2 yX2_add yX2_add, Cond.code yX2_add cX2_add 5 none, Cond.fieldLink RX2 19 "LightBursts$Track" "begins" "[I", Cond.fieldLink RX2 15 "LightBursts$Track" "bursts" "[I", Cond.fieldLink RX2 22 "LightBursts$Track" "ends" "[I", Cond.instanceMethod yX2_bookedTicks, Cond.selects RX2 yX2_bookedTicks yX2_bookedTicks, Cond.code yX2_bookedTicks cX2_bookedTicks 5 (some .int), Cond.methodLink RX2 39 Lib.Math.min.name, Cond.static Lib.Math.min.name, Cond.initialized "java/lang/Math", Cond.code Lib.Math.min.name Lib.Math.min.code 2 (some .int), Cond.methodLink RX2 33 Lib.Math.max.name, Cond.static Lib.Math.max.name, Cond.code Lib.Math.max.name Lib.Math.max.code 2 (some .int)]
def wsX3_busy : List Cond := .code yX3_busy cX3_busy 5 (some .int) :: ((wsX3_busy_r1 ++ wsX3_busy_r2) ++ wsX30 ++ wsX00 ++ wsX20)
def wsX3_free_r1 : List Cond := [Cond.fieldLink RX3 10 "LightBursts" "book" "LLightBursts$Book;", Cond.fieldLink RX3 29 "LightBursts" "track" "LLightBursts$Track;", Cond.methodLink RX3 42 yX3_isBelow, Cond.static yX3_isBelow, Cond.initialized RX3, Cond.code yX3_isBelow cX3_isBelow 2 (some .boolean), Cond.methodLink RX3 116 yX3_isSpan, Cond.static yX3_isSpan, Cond.code yX3_isSpan cX3_isSpan 2 (some .boolean), Cond.methodLink RX3 56 yX3_isWithin, Cond.static yX3_isWithin, Cond.code yX3_isWithin cX3_isWithin 3 (some .boolean), Cond.instanceMethod yX0_showColour, Cond.initialized RX0, Cond.selects RX0 yX0_showColour yX0_showColour, Cond.code yX0_showColour cX0_showColour 5 none, Cond.fieldLink RX0 15 "LightBursts$Book" "told" "I", Cond.instanceMethod yX2_clear, Cond.initialized RX2, Cond.selects RX2 yX2_clear yX2_clear, Cond.code yX2_clear cX2_clear 1 none, Cond.fieldLink RX2 9 "LightBursts$Track" "size" "I", Cond.methodLink RX0 59 yX0_fact, Cond.instanceMethod yX0_fact]
def wsX3_free_r2 : List Cond := [Cond.selects RX0 yX0_fact yX0_fact, Cond.code yX0_fact cX0_fact 4 (some .int), Cond.fieldLink RX0 33 "LightBursts$Book" "facts" "[I", Cond.instanceMethod yX2_add, Cond.selects RX2 yX2_add yX2_add, Cond.code yX2_add cX2_add 5 none, Cond.fieldLink RX2 19 "LightBursts$Track" "begins" "[I", Cond.fieldLink RX2 15 "LightBursts$Track" "bursts" "[I", Cond.fieldLink RX2 22 "LightBursts$Track" "ends" "[I", Cond.instanceMethod yX2_isFree, Cond.selects RX2 yX2_isFree yX2_isFree, Cond.code yX2_isFree cX2_isFree 4 (some .boolean), Cond.methodLink RX2 42 yX2_room, Cond.instanceMethod yX2_room, Cond.selects RX2 yX2_room yX2_room, Cond.code yX2_room cX2_room 6 (some .int), Cond.methodLink RX2 39 Lib.Math.min.name, Cond.static Lib.Math.min.name, Cond.initialized "java/lang/Math", Cond.code Lib.Math.min.name Lib.Math.min.code 2 (some .int), Cond.methodLink RX2 33 Lib.Math.max.name, Cond.static Lib.Math.max.name, Cond.code Lib.Math.max.name Lib.Math.max.code 2 (some .int)]
def wsX3_free : List Cond := .code yX3_free cX3_free 6 (some .int) :: ((wsX3_free_r1 ++ wsX3_free_r2) ++ wsX30 ++ wsX00 ++ wsX20)
def wsX3_next_r1 : List Cond := [Cond.fieldLink RX3 10 "LightBursts" "book" "LLightBursts$Book;", Cond.fieldLink RX3 29 "LightBursts" "track" "LLightBursts$Track;", Cond.methodLink RX3 106 yX3_isColour, Cond.static yX3_isColour, Cond.initialized RX3, Cond.code yX3_isColour cX3_isColour 2 (some .boolean), Cond.methodLink RX3 42 yX3_isBelow, Cond.static yX3_isBelow, Cond.code yX3_isBelow cX3_isBelow 2 (some .boolean), Cond.methodLink RX3 116 yX3_isSpan, Cond.static yX3_isSpan, Cond.code yX3_isSpan cX3_isSpan 2 (some .boolean), Cond.methodLink RX3 56 yX3_isWithin, Cond.static yX3_isWithin, Cond.code yX3_isWithin cX3_isWithin 3 (some .boolean), Cond.instanceMethod yX0_showColour, Cond.initialized RX0, Cond.selects RX0 yX0_showColour yX0_showColour, Cond.code yX0_showColour cX0_showColour 5 none, Cond.fieldLink RX0 15 "LightBursts$Book" "told" "I", Cond.instanceMethod yX2_clear, Cond.initialized RX2, Cond.selects RX2 yX2_clear yX2_clear, Cond.code yX2_clear cX2_clear 1 none]
def wsX3_next_r2 : List Cond := [Cond.fieldLink RX2 9 "LightBursts$Track" "size" "I", Cond.methodLink RX0 59 yX0_fact, Cond.instanceMethod yX0_fact, Cond.selects RX0 yX0_fact yX0_fact, Cond.code yX0_fact cX0_fact 4 (some .int), Cond.fieldLink RX0 33 "LightBursts$Book" "facts" "[I", Cond.instanceMethod yX2_add, Cond.selects RX2 yX2_add yX2_add, Cond.code yX2_add cX2_add 5 none, Cond.fieldLink RX2 19 "LightBursts$Track" "begins" "[I", Cond.fieldLink RX2 15 "LightBursts$Track" "bursts" "[I", Cond.fieldLink RX2 22 "LightBursts$Track" "ends" "[I", Cond.instanceMethod yX2_firstFree, Cond.selects RX2 yX2_firstFree yX2_firstFree, Cond.code yX2_firstFree cX2_firstFree 5 (some .int)]
def wsX3_next : List Cond := .code yX3_next cX3_next 5 (some .int) :: ((wsX3_next_r1 ++ wsX3_next_r2) ++ wsX30 ++ wsX00 ++ wsX20)
def wsX3_hole_r1 : List Cond := [Cond.fieldLink RX3 10 "LightBursts" "book" "LLightBursts$Book;", Cond.fieldLink RX3 29 "LightBursts" "track" "LLightBursts$Track;", Cond.methodLink RX3 106 yX3_isColour, Cond.static yX3_isColour, Cond.initialized RX3, Cond.code yX3_isColour cX3_isColour 2 (some .boolean), Cond.methodLink RX3 42 yX3_isBelow, Cond.static yX3_isBelow, Cond.code yX3_isBelow cX3_isBelow 2 (some .boolean), Cond.instanceMethod yX0_showColour, Cond.initialized RX0, Cond.selects RX0 yX0_showColour yX0_showColour, Cond.code yX0_showColour cX0_showColour 5 none, Cond.fieldLink RX0 15 "LightBursts$Book" "told" "I", Cond.instanceMethod yX2_clear, Cond.initialized RX2, Cond.selects RX2 yX2_clear yX2_clear, Cond.code yX2_clear cX2_clear 1 none, Cond.fieldLink RX2 9 "LightBursts$Track" "size" "I", Cond.methodLink RX0 59 yX0_fact, Cond.instanceMethod yX0_fact, Cond.selects RX0 yX0_fact yX0_fact, Cond.code yX0_fact cX0_fact 4 (some .int), Cond.fieldLink RX0 33 "LightBursts$Book" "facts" "[I"]
def wsX3_hole_r2 : List Cond := [Cond.instanceMethod yX2_add, Cond.selects RX2 yX2_add yX2_add, Cond.code yX2_add cX2_add 5 none, Cond.fieldLink RX2 19 "LightBursts$Track" "begins" "[I", Cond.fieldLink RX2 15 "LightBursts$Track" "bursts" "[I", Cond.fieldLink RX2 22 "LightBursts$Track" "ends" "[I", Cond.instanceMethod yX2_closingOfVoid, Cond.selects RX2 yX2_closingOfVoid yX2_closingOfVoid, Cond.code yX2_closingOfVoid cX2_closingOfVoid 5 (some .int), Cond.methodLink RX2 46 yX2_voidBefore, Cond.instanceMethod yX2_voidBefore, Cond.selects RX2 yX2_voidBefore yX2_voidBefore, Cond.code yX2_voidBefore cX2_voidBefore 3 (some .int), Cond.methodLink RX2 33 Lib.Math.max.name, Cond.static Lib.Math.max.name, Cond.initialized "java/lang/Math", Cond.code Lib.Math.max.name Lib.Math.max.code 2 (some .int), Cond.methodLink RX2 29 yX2_has, Cond.instanceMethod yX2_has, Cond.selects RX2 yX2_has yX2_has, Cond.code yX2_has cX2_has 2 (some .boolean), Cond.instanceMethod yX2_begin, Cond.selects RX2 yX2_begin yX2_begin, Cond.code yX2_begin cX2_begin 2 (some .int)]
def wsX3_hole : List Cond := .code yX3_hole cX3_hole 7 (some .int) :: ((wsX3_hole_r1 ++ wsX3_hole_r2) ++ wsX30 ++ wsX00 ++ wsX20)
def wsX3_commonDivisor : List Cond := .code yX3_commonDivisor cX3_commonDivisor 6 (some .int) :: ([])
def wsX3_partLost : List Cond := .code yX3_partLost cX3_partLost 6 (some .int) :: ([.fieldLink RX3 10 "LightBursts" "book" "LLightBursts$Book;", .instanceMethod yX0_sumOfClass, .initialized RX0, .selects RX0 yX0_sumOfClass yX0_sumOfClass, .code yX0_sumOfClass cX0_sumOfClass 5 (some .int), .fieldLink RX0 15 "LightBursts$Book" "told" "I", .methodLink RX0 66 yX0_isTallied, .instanceMethod yX0_isTallied, .selects RX0 yX0_isTallied yX0_isTallied, .code yX0_isTallied cX0_isTallied 3 (some .boolean), .methodLink RX0 59 yX0_fact, .instanceMethod yX0_fact, .selects RX0 yX0_fact yX0_fact, .code yX0_fact cX0_fact 4 (some .int), .fieldLink RX0 33 "LightBursts$Book" "facts" "[I", .static yX3_isBelow, .initialized RX3, .code yX3_isBelow cX3_isBelow 2 (some .boolean), .methodLink RX3 178 yX3_commonDivisor, .static yX3_commonDivisor, .code yX3_commonDivisor cX3_commonDivisor 6 (some .int)] ++ wsX30 ++ wsX00)
def wsX3_tally_r1 : List Cond := [Cond.fieldLink RX3 10 "LightBursts" "book" "LLightBursts$Book;", Cond.methodLink RX3 42 yX3_isBelow, Cond.static yX3_isBelow, Cond.initialized RX3, Cond.code yX3_isBelow cX3_isBelow 2 (some .boolean), Cond.instanceMethod yX0_burstsOfClass, Cond.initialized RX0, Cond.selects RX0 yX0_burstsOfClass yX0_burstsOfClass, Cond.code yX0_burstsOfClass cX0_burstsOfClass 4 (some .int), Cond.fieldLink RX0 15 "LightBursts$Book" "told" "I", Cond.methodLink RX0 66 yX0_isTallied, Cond.instanceMethod yX0_isTallied, Cond.selects RX0 yX0_isTallied yX0_isTallied, Cond.code yX0_isTallied cX0_isTallied 3 (some .boolean), Cond.methodLink RX0 59 yX0_fact, Cond.instanceMethod yX0_fact, Cond.selects RX0 yX0_fact yX0_fact, Cond.code yX0_fact cX0_fact 4 (some .int), Cond.fieldLink RX0 33 "LightBursts$Book" "facts" "[I", Cond.instanceMethod yX0_sumOfClass, Cond.selects RX0 yX0_sumOfClass yX0_sumOfClass, Cond.code yX0_sumOfClass cX0_sumOfClass 5 (some .int), Cond.instanceMethod yX0_lostOfClass, Cond.selects RX0 yX0_lostOfClass yX0_lostOfClass]
def wsX3_tally_r2 : List Cond := [Cond.code yX0_lostOfClass cX0_lostOfClass 4 (some .int), Cond.methodLink RX3 148 yX3_partLost, Cond.instanceMethod yX3_partLost, Cond.selects RX3 yX3_partLost yX3_partLost, Cond.code yX3_partLost cX3_partLost 6 (some .int), Cond.methodLink RX3 178 yX3_commonDivisor, Cond.static yX3_commonDivisor, Cond.code yX3_commonDivisor cX3_commonDivisor 6 (some .int)]
def wsX3_tally : List Cond := .code yX3_tally cX3_tally 3 (some .int) :: ((wsX3_tally_r1 ++ wsX3_tally_r2) ++ wsX30 ++ wsX00)
def wsX3_count_r1 : List Cond := [Cond.fieldLink RX3 10 "LightBursts" "book" "LLightBursts$Book;", Cond.fieldLink RX3 22 "LightBursts" "keptImages" "I", Cond.methodLink RX3 56 yX3_isWithin, Cond.static yX3_isWithin, Cond.initialized RX3, Cond.code yX3_isWithin cX3_isWithin 3 (some .boolean), Cond.instanceMethod yX0_burstsOfFate, Cond.initialized RX0, Cond.selects RX0 yX0_burstsOfFate yX0_burstsOfFate, Cond.code yX0_burstsOfFate cX0_burstsOfFate 2 (some .int), Cond.methodLink RX0 69 yX0_burstsWhere, Cond.instanceMethod yX0_burstsWhere, Cond.selects RX0 yX0_burstsWhere yX0_burstsWhere, Cond.code yX0_burstsWhere cX0_burstsWhere 5 (some .int), Cond.fieldLink RX0 15 "LightBursts$Book" "told" "I", Cond.methodLink RX0 59 yX0_fact, Cond.instanceMethod yX0_fact, Cond.selects RX0 yX0_fact yX0_fact, Cond.code yX0_fact cX0_fact 4 (some .int), Cond.fieldLink RX0 33 "LightBursts$Book" "facts" "[I", Cond.static yX3_isBelow, Cond.code yX3_isBelow cX3_isBelow 2 (some .boolean), Cond.instanceMethod yX0_ruleNow, Cond.selects RX0 yX0_ruleNow yX0_ruleNow]
def wsX3_count_r2 : List Cond := [Cond.code yX0_ruleNow cX0_ruleNow 2 (some .int), Cond.fieldLink RX0 27 "LightBursts$Book" "rules" "[I", Cond.instanceMethod yX0_lengthNow, Cond.selects RX0 yX0_lengthNow yX0_lengthNow, Cond.code yX0_lengthNow cX0_lengthNow 2 (some .int), Cond.fieldLink RX0 30 "LightBursts$Book" "lengths" "[I", Cond.instanceMethod yX0_burstsWith, Cond.selects RX0 yX0_burstsWith yX0_burstsWith, Cond.code yX0_burstsWith cX0_burstsWith 2 (some .int)]
def wsX3_count : List Cond := .code yX3_count cX3_count 2 (some .int) :: ((wsX3_count_r1 ++ wsX3_count_r2) ++ wsX30 ++ wsX00)
def wsX3_imageOf : List Cond := .code yX3_imageOf cX3_imageOf 2 (some (.object "LightBursts$Book")) :: ([.fieldLink RX3 16 "LightBursts" "firstImage" "LLightBursts$Book;", .fieldLink RX3 19 "LightBursts" "secondImage" "LLightBursts$Book;"] ++ wsX30)
def wsX3_image_r1 : List Cond := [Cond.fieldLink RX3 10 "LightBursts" "book" "LLightBursts$Book;", Cond.fieldLink RX3 22 "LightBursts" "keptImages" "I", Cond.methodLink RX3 42 yX3_isBelow, Cond.static yX3_isBelow, Cond.initialized RX3, Cond.code yX3_isBelow cX3_isBelow 2 (some .boolean), Cond.methodLink RX3 164 yX3_imageOf, Cond.instanceMethod yX3_imageOf, Cond.selects RX3 yX3_imageOf yX3_imageOf, Cond.code yX3_imageOf cX3_imageOf 2 (some (.object "LightBursts$Book")), Cond.fieldLink RX3 16 "LightBursts" "firstImage" "LLightBursts$Book;", Cond.fieldLink RX3 19 "LightBursts" "secondImage" "LLightBursts$Book;", Cond.instanceMethod yX0_copyFrom, Cond.initialized RX0, Cond.selects RX0 yX0_copyFrom yX0_copyFrom, Cond.code yX0_copyFrom cX0_copyFrom 2 none, Cond.fieldLink RX0 9 "LightBursts$Book" "now" "I", Cond.fieldLink RX0 15 "LightBursts$Book" "told" "I", Cond.fieldLink RX0 27 "LightBursts$Book" "rules" "[I", Cond.methodLink RX0 36 arraycopyName, Cond.native arraycopyName, Cond.static arraycopyName, Cond.initialized "java/lang/System", Cond.fieldLink RX0 30 "LightBursts$Book" "lengths" "[I"]
def wsX3_image_r2 : List Cond := [Cond.fieldLink RX0 33 "LightBursts$Book" "facts" "[I"]
def wsX3_image : List Cond := .code yX3_image cX3_image 2 (some .int) :: ((wsX3_image_r1 ++ wsX3_image_r2) ++ wsX30 ++ wsX00)
def wsX3_restore_r1 : List Cond := [Cond.fieldLink RX3 22 "LightBursts" "keptImages" "I", Cond.fieldLink RX3 10 "LightBursts" "book" "LLightBursts$Book;", Cond.methodLink RX3 42 yX3_isBelow, Cond.static yX3_isBelow, Cond.initialized RX3, Cond.code yX3_isBelow cX3_isBelow 2 (some .boolean), Cond.methodLink RX3 164 yX3_imageOf, Cond.instanceMethod yX3_imageOf, Cond.selects RX3 yX3_imageOf yX3_imageOf, Cond.code yX3_imageOf cX3_imageOf 2 (some (.object "LightBursts$Book")), Cond.fieldLink RX3 16 "LightBursts" "firstImage" "LLightBursts$Book;", Cond.fieldLink RX3 19 "LightBursts" "secondImage" "LLightBursts$Book;", Cond.instanceMethod yX0_copyFrom, Cond.initialized RX0, Cond.selects RX0 yX0_copyFrom yX0_copyFrom, Cond.code yX0_copyFrom cX0_copyFrom 2 none, Cond.fieldLink RX0 9 "LightBursts$Book" "now" "I", Cond.fieldLink RX0 15 "LightBursts$Book" "told" "I", Cond.fieldLink RX0 27 "LightBursts$Book" "rules" "[I", Cond.methodLink RX0 36 arraycopyName, Cond.native arraycopyName, Cond.static arraycopyName, Cond.initialized "java/lang/System", Cond.fieldLink RX0 30 "LightBursts$Book" "lengths" "[I"]
def wsX3_restore_r2 : List Cond := [Cond.fieldLink RX0 33 "LightBursts$Book" "facts" "[I"]
def wsX3_restore : List Cond := .code yX3_restore cX3_restore 2 (some .int) :: ((wsX3_restore_r1 ++ wsX3_restore_r2) ++ wsX30 ++ wsX00)
def wsX4_init : List Cond := .code yX4_init cX4_init 1 none :: ([.methodLink RX4 1 objectInit, .instanceMethod objectInit, .code objectInit ⟨#[0xb1]⟩ 1 none, .arrayClass .int, .fieldLink RX4 7 "LightBurstsModel" "state" "[I", .fieldLink RX4 13 "LightBurstsModel" "images" "[I", .arrayClass .boolean, .fieldLink RX4 16 "LightBurstsModel" "isKept" "[Z"] ++ wsX40)
def wsX4_in : List Cond := .code yX4_in cX4_in 3 (some .boolean) :: ([])
def wsX4_at : List Cond := .code yX4_at cX4_at 2 (some .int) :: ([])
def wsX4_of : List Cond := .code yX4_of cX4_of 3 (some .int) :: ([.fieldLink RX4 7 "LightBurstsModel" "state" "[I", .methodLink RX4 20 yX4_at, .static yX4_at, .initialized RX4, .code yX4_at cX4_at 2 (some .int)] ++ wsX40)
def wsX4_isBurst : List Cond := .code yX4_isBurst cX4_isBurst 2 (some .boolean) :: ([.fieldLink RX4 7 "LightBurstsModel" "state" "[I", .methodLink RX4 24 yX4_in, .static yX4_in, .initialized RX4, .code yX4_in cX4_in 3 (some .boolean)] ++ wsX40)
def wsX4_isOut : List Cond := .code yX4_isOut cX4_isOut 1 (some .boolean) :: ([.methodLink RX4 24 yX4_in, .static yX4_in, .initialized RX4, .code yX4_in cX4_in 3 (some .boolean)])
def wsX4_isColour : List Cond := .code yX4_isColour cX4_isColour 1 (some .boolean) :: ([.methodLink RX4 24 yX4_in, .static yX4_in, .initialized RX4, .code yX4_in cX4_in 3 (some .boolean)])
def wsX4_rule : List Cond := .code yX4_rule cX4_rule 4 (some .int) :: ([.fieldLink RX4 7 "LightBurstsModel" "state" "[I", .methodLink RX4 24 yX4_in, .static yX4_in, .initialized RX4, .code yX4_in cX4_in 3 (some .boolean)] ++ wsX40)
def wsX4_isOnLine : List Cond := .code yX4_isOnLine cX4_isOnLine 3 (some .boolean) :: ([.methodLink RX4 28 yX4_of, .instanceMethod yX4_of, .selects RX4 yX4_of yX4_of, .initialized RX4, .code yX4_of cX4_of 3 (some .int), .fieldLink RX4 7 "LightBurstsModel" "state" "[I", .methodLink RX4 20 yX4_at, .static yX4_at, .code yX4_at cX4_at 2 (some .int)] ++ wsX40)
def wsX4_line : List Cond := .code yX4_line cX4_line 4 (some .int) :: ([.fieldLink RX4 7 "LightBurstsModel" "state" "[I", .methodLink RX4 24 yX4_in, .static yX4_in, .initialized RX4, .code yX4_in cX4_in 3 (some .boolean), .methodLink RX4 31 yX4_isOnLine, .instanceMethod yX4_isOnLine, .selects RX4 yX4_isOnLine yX4_isOnLine, .code yX4_isOnLine cX4_isOnLine 3 (some .boolean), .methodLink RX4 28 yX4_of, .instanceMethod yX4_of, .selects RX4 yX4_of yX4_of, .code yX4_of cX4_of 3 (some .int), .methodLink RX4 20 yX4_at, .static yX4_at, .code yX4_at cX4_at 2 (some .int)] ++ wsX40)
def wsX4_pass : List Cond := .code yX4_pass cX4_pass 2 (some .int) :: ([.fieldLink RX4 7 "LightBurstsModel" "state" "[I", .methodLink RX4 24 yX4_in, .static yX4_in, .initialized RX4, .code yX4_in cX4_in 3 (some .boolean)] ++ wsX40)
def wsX4_isOn : List Cond := .code yX4_isOn cX4_isOn 4 (some .boolean) :: ([.methodLink RX4 28 yX4_of, .instanceMethod yX4_of, .selects RX4 yX4_of yX4_of, .initialized RX4, .code yX4_of cX4_of 3 (some .int), .fieldLink RX4 7 "LightBurstsModel" "state" "[I", .methodLink RX4 20 yX4_at, .static yX4_at, .code yX4_at cX4_at 2 (some .int)] ++ wsX40)
def wsX4_clash : List Cond := .code yX4_clash cX4_clash 4 (some .boolean) :: ([])
def wsX4_isClear : List Cond := .code yX4_isClear cX4_isClear 6 (some .boolean) :: ([.fieldLink RX4 7 "LightBurstsModel" "state" "[I", .methodLink RX4 35 yX4_isOn, .instanceMethod yX4_isOn, .selects RX4 yX4_isOn yX4_isOn, .initialized RX4, .code yX4_isOn cX4_isOn 4 (some .boolean), .methodLink RX4 28 yX4_of, .instanceMethod yX4_of, .selects RX4 yX4_of yX4_of, .code yX4_of cX4_of 3 (some .int), .methodLink RX4 20 yX4_at, .static yX4_at, .code yX4_at cX4_at 2 (some .int), .methodLink RX4 38 yX4_clash, .static yX4_clash, .code yX4_clash cX4_clash 4 (some .boolean)] ++ wsX40)
def wsX4_isLast : List Cond := .code yX4_isLast cX4_isLast 5 (some .boolean) :: ([.fieldLink RX4 7 "LightBurstsModel" "state" "[I", .methodLink RX4 35 yX4_isOn, .instanceMethod yX4_isOn, .selects RX4 yX4_isOn yX4_isOn, .initialized RX4, .code yX4_isOn cX4_isOn 4 (some .boolean), .methodLink RX4 28 yX4_of, .instanceMethod yX4_of, .selects RX4 yX4_of yX4_of, .code yX4_of cX4_of 3 (some .int), .methodLink RX4 20 yX4_at, .static yX4_at, .code yX4_at cX4_at 2 (some .int)] ++ wsX40)
def wsX4_isFree : List Cond := .code yX4_isFree cX4_isFree 5 (some .boolean) :: ([.fieldLink RX4 7 "LightBurstsModel" "state" "[I", .methodLink RX4 42 yX4_isClear, .instanceMethod yX4_isClear, .selects RX4 yX4_isClear yX4_isClear, .initialized RX4, .code yX4_isClear cX4_isClear 6 (some .boolean), .methodLink RX4 35 yX4_isOn, .instanceMethod yX4_isOn, .selects RX4 yX4_isOn yX4_isOn, .code yX4_isOn cX4_isOn 4 (some .boolean), .methodLink RX4 28 yX4_of, .instanceMethod yX4_of, .selects RX4 yX4_of yX4_of, .code yX4_of cX4_of 3 (some .int), .methodLink RX4 20 yX4_at, .static yX4_at, .code yX4_at cX4_at 2 (some .int), .methodLink RX4 38 yX4_clash, .static yX4_clash, .code yX4_clash cX4_clash 4 (some .boolean), .methodLink RX4 45 yX4_isLast, .instanceMethod yX4_isLast, .selects RX4 yX4_isLast yX4_isLast, .code yX4_isLast cX4_isLast 5 (some .boolean)] ++ wsX40)
def wsX4_gap : List Cond := .code yX4_gap cX4_gap 7 (some .int) :: ([.fieldLink RX4 7 "LightBurstsModel" "state" "[I", .methodLink RX4 28 yX4_of, .instanceMethod yX4_of, .selects RX4 yX4_of yX4_of, .initialized RX4, .code yX4_of cX4_of 3 (some .int), .methodLink RX4 20 yX4_at, .static yX4_at, .code yX4_at cX4_at 2 (some .int), .methodLink RX4 35 yX4_isOn, .instanceMethod yX4_isOn, .selects RX4 yX4_isOn yX4_isOn, .code yX4_isOn cX4_isOn 4 (some .boolean)] ++ wsX40)
def wsX4_away : List Cond := .code yX4_away cX4_away 2 (some .int) :: ([])
def wsX4_colourFor_r1 : List Cond := [Cond.fieldLink RX4 7 "LightBurstsModel" "state" "[I", Cond.methodLink RX4 48 yX4_away, Cond.static yX4_away, Cond.initialized RX4, Cond.code yX4_away cX4_away 2 (some .int), Cond.methodLink RX4 51 yX4_isFree, Cond.instanceMethod yX4_isFree, Cond.selects RX4 yX4_isFree yX4_isFree, Cond.code yX4_isFree cX4_isFree 5 (some .boolean), Cond.methodLink RX4 42 yX4_isClear, Cond.instanceMethod yX4_isClear, Cond.selects RX4 yX4_isClear yX4_isClear, Cond.code yX4_isClear cX4_isClear 6 (some .boolean), Cond.methodLink RX4 35 yX4_isOn, Cond.instanceMethod yX4_isOn, Cond.selects RX4 yX4_isOn yX4_isOn, Cond.code yX4_isOn cX4_isOn 4 (some .boolean), Cond.methodLink RX4 28 yX4_of, Cond.instanceMethod yX4_of, Cond.selects RX4 yX4_of yX4_of, Cond.code yX4_of cX4_of 3 (some .int), Cond.methodLink RX4 20 yX4_at, Cond.static yX4_at, Cond.code yX4_at cX4_at 2 (some .int)]
def wsX4_colourFor_r2 : List Cond := [Cond.methodLink RX4 38 yX4_clash, Cond.static yX4_clash, Cond.code yX4_clash cX4_clash 4 (some .boolean), Cond.methodLink RX4 45 yX4_isLast, Cond.instanceMethod yX4_isLast, Cond.selects RX4 yX4_isLast yX4_isLast, Cond.code yX4_isLast cX4_isLast 5 (some .boolean), Cond.methodLink RX4 54 yX4_gap, Cond.instanceMethod yX4_gap, Cond.selects RX4 yX4_gap yX4_gap, Cond.code yX4_gap cX4_gap 7 (some .int)]
def wsX4_colourFor : List Cond := .code yX4_colourFor cX4_colourFor 8 (some .int) :: ((wsX4_colourFor_r1 ++ wsX4_colourFor_r2) ++ wsX40)
def wsX4_isLineClear : List Cond := .code yX4_isLineClear cX4_isLineClear 5 (some .boolean) :: ([.fieldLink RX4 7 "LightBurstsModel" "state" "[I", .methodLink RX4 31 yX4_isOnLine, .instanceMethod yX4_isOnLine, .selects RX4 yX4_isOnLine yX4_isOnLine, .initialized RX4, .code yX4_isOnLine cX4_isOnLine 3 (some .boolean), .methodLink RX4 28 yX4_of, .instanceMethod yX4_of, .selects RX4 yX4_of yX4_of, .code yX4_of cX4_of 3 (some .int), .methodLink RX4 20 yX4_at, .static yX4_at, .code yX4_at cX4_at 2 (some .int), .methodLink RX4 38 yX4_clash, .static yX4_clash, .code yX4_clash cX4_clash 4 (some .boolean)] ++ wsX40)
def wsX4_get : List Cond := .code yX4_get cX4_get 6 none :: ([.fieldLink RX4 58 "LightBurstsModel" "fate" "I", .fieldLink RX4 62 "LightBurstsModel" "on" "I", .fieldLink RX4 65 "LightBurstsModel" "from" "I", .fieldLink RX4 68 "LightBurstsModel" "size" "I", .fieldLink RX4 71 "LightBurstsModel" "by" "I"] ++ wsX40)
def wsX4_lineFor_r1 : List Cond := [Cond.fieldLink RX4 7 "LightBurstsModel" "state" "[I", Cond.methodLink RX4 74 yX4_isLineClear, Cond.instanceMethod yX4_isLineClear, Cond.selects RX4 yX4_isLineClear yX4_isLineClear, Cond.initialized RX4, Cond.code yX4_isLineClear cX4_isLineClear 5 (some .boolean), Cond.methodLink RX4 31 yX4_isOnLine, Cond.instanceMethod yX4_isOnLine, Cond.selects RX4 yX4_isOnLine yX4_isOnLine, Cond.code yX4_isOnLine cX4_isOnLine 3 (some .boolean), Cond.methodLink RX4 28 yX4_of, Cond.instanceMethod yX4_of, Cond.selects RX4 yX4_of yX4_of, Cond.code yX4_of cX4_of 3 (some .int), Cond.methodLink RX4 20 yX4_at, Cond.static yX4_at, Cond.code yX4_at cX4_at 2 (some .int), Cond.methodLink RX4 38 yX4_clash, Cond.static yX4_clash, Cond.code yX4_clash cX4_clash 4 (some .boolean), Cond.methodLink RX4 77 yX4_colourFor, Cond.instanceMethod yX4_colourFor, Cond.selects RX4 yX4_colourFor yX4_colourFor, Cond.code yX4_colourFor cX4_colourFor 8 (some .int)]
def wsX4_lineFor_r2 : List Cond := [Cond.methodLink RX4 48 yX4_away, Cond.static yX4_away, Cond.code yX4_away cX4_away 2 (some .int), Cond.methodLink RX4 51 yX4_isFree, Cond.instanceMethod yX4_isFree, Cond.selects RX4 yX4_isFree yX4_isFree, Cond.code yX4_isFree cX4_isFree 5 (some .boolean), Cond.methodLink RX4 42 yX4_isClear, Cond.instanceMethod yX4_isClear, Cond.selects RX4 yX4_isClear yX4_isClear, Cond.code yX4_isClear cX4_isClear 6 (some .boolean), Cond.methodLink RX4 35 yX4_isOn, Cond.instanceMethod yX4_isOn, Cond.selects RX4 yX4_isOn yX4_isOn, Cond.code yX4_isOn cX4_isOn 4 (some .boolean), Cond.methodLink RX4 45 yX4_isLast, Cond.instanceMethod yX4_isLast, Cond.selects RX4 yX4_isLast yX4_isLast, Cond.code yX4_isLast cX4_isLast 5 (some .boolean), Cond.methodLink RX4 54 yX4_gap, Cond.instanceMethod yX4_gap, Cond.selects RX4 yX4_gap yX4_gap, Cond.code yX4_gap cX4_gap 7 (some .int)]
def wsX4_lineFor : List Cond := .code yX4_lineFor cX4_lineFor 9 (some .int) :: ((wsX4_lineFor_r1 ++ wsX4_lineFor_r2) ++ wsX40)
def wsX4_pieceOf_r1 : List Cond := [Cond.methodLink RX4 51 yX4_isFree, Cond.instanceMethod yX4_isFree, Cond.selects RX4 yX4_isFree yX4_isFree, Cond.initialized RX4, Cond.code yX4_isFree cX4_isFree 5 (some .boolean), Cond.fieldLink RX4 7 "LightBurstsModel" "state" "[I", Cond.methodLink RX4 42 yX4_isClear, Cond.instanceMethod yX4_isClear, Cond.selects RX4 yX4_isClear yX4_isClear, Cond.code yX4_isClear cX4_isClear 6 (some .boolean), Cond.methodLink RX4 35 yX4_isOn, Cond.instanceMethod yX4_isOn, Cond.selects RX4 yX4_isOn yX4_isOn, Cond.code yX4_isOn cX4_isOn 4 (some .boolean), Cond.methodLink RX4 28 yX4_of, Cond.instanceMethod yX4_of, Cond.selects RX4 yX4_of yX4_of, Cond.code yX4_of cX4_of 3 (some .int), Cond.methodLink RX4 20 yX4_at, Cond.static yX4_at, Cond.code yX4_at cX4_at 2 (some .int), Cond.methodLink RX4 38 yX4_clash, Cond.static yX4_clash, Cond.code yX4_clash cX4_clash 4 (some .boolean)]
def wsX4_pieceOf_r2 : List Cond := [Cond.methodLink RX4 45 yX4_isLast, Cond.instanceMethod yX4_isLast, Cond.selects RX4 yX4_isLast yX4_isLast, Cond.code yX4_isLast cX4_isLast 5 (some .boolean)]
def wsX4_pieceOf : List Cond := .code yX4_pieceOf cX4_pieceOf 7 (some .int) :: ((wsX4_pieceOf_r1 ++ wsX4_pieceOf_r2) ++ wsX40)
def wsX4_cut_r1 : List Cond := [Cond.fieldLink RX4 7 "LightBurstsModel" "state" "[I", Cond.methodLink RX4 48 yX4_away, Cond.static yX4_away, Cond.initialized RX4, Cond.code yX4_away cX4_away 2 (some .int), Cond.methodLink RX4 81 yX4_pieceOf, Cond.instanceMethod yX4_pieceOf, Cond.selects RX4 yX4_pieceOf yX4_pieceOf, Cond.code yX4_pieceOf cX4_pieceOf 7 (some .int), Cond.methodLink RX4 51 yX4_isFree, Cond.instanceMethod yX4_isFree, Cond.selects RX4 yX4_isFree yX4_isFree, Cond.code yX4_isFree cX4_isFree 5 (some .boolean), Cond.methodLink RX4 42 yX4_isClear, Cond.instanceMethod yX4_isClear, Cond.selects RX4 yX4_isClear yX4_isClear, Cond.code yX4_isClear cX4_isClear 6 (some .boolean), Cond.methodLink RX4 35 yX4_isOn, Cond.instanceMethod yX4_isOn, Cond.selects RX4 yX4_isOn yX4_isOn, Cond.code yX4_isOn cX4_isOn 4 (some .boolean), Cond.methodLink RX4 28 yX4_of, Cond.instanceMethod yX4_of, Cond.selects RX4 yX4_of yX4_of]
def wsX4_cut_r2 : List Cond := [Cond.code yX4_of cX4_of 3 (some .int), Cond.methodLink RX4 20 yX4_at, Cond.static yX4_at, Cond.code yX4_at cX4_at 2 (some .int), Cond.methodLink RX4 38 yX4_clash, Cond.static yX4_clash, Cond.code yX4_clash cX4_clash 4 (some .boolean), Cond.methodLink RX4 45 yX4_isLast, Cond.instanceMethod yX4_isLast, Cond.selects RX4 yX4_isLast yX4_isLast, Cond.code yX4_isLast cX4_isLast 5 (some .boolean), Cond.methodLink RX4 84 yX4_get, Cond.instanceMethod yX4_get, Cond.selects RX4 yX4_get yX4_get, Cond.code yX4_get cX4_get 6 none, Cond.fieldLink RX4 58 "LightBurstsModel" "fate" "I", Cond.fieldLink RX4 62 "LightBurstsModel" "on" "I", Cond.fieldLink RX4 65 "LightBurstsModel" "from" "I", Cond.fieldLink RX4 68 "LightBurstsModel" "size" "I", Cond.fieldLink RX4 71 "LightBurstsModel" "by" "I"]
def wsX4_cut : List Cond := .code yX4_cut cX4_cut 9 none :: ((wsX4_cut_r1 ++ wsX4_cut_r2) ++ wsX40)
def wsX4_place_r1 : List Cond := [Cond.fieldLink RX4 7 "LightBurstsModel" "state" "[I", Cond.methodLink RX4 77 yX4_colourFor, Cond.instanceMethod yX4_colourFor, Cond.selects RX4 yX4_colourFor yX4_colourFor, Cond.initialized RX4, Cond.code yX4_colourFor cX4_colourFor 8 (some .int), Cond.methodLink RX4 48 yX4_away, Cond.static yX4_away, Cond.code yX4_away cX4_away 2 (some .int), Cond.methodLink RX4 51 yX4_isFree, Cond.instanceMethod yX4_isFree, Cond.selects RX4 yX4_isFree yX4_isFree, Cond.code yX4_isFree cX4_isFree 5 (some .boolean), Cond.methodLink RX4 42 yX4_isClear, Cond.instanceMethod yX4_isClear, Cond.selects RX4 yX4_isClear yX4_isClear, Cond.code yX4_isClear cX4_isClear 6 (some .boolean), Cond.methodLink RX4 35 yX4_isOn, Cond.instanceMethod yX4_isOn, Cond.selects RX4 yX4_isOn yX4_isOn, Cond.code yX4_isOn cX4_isOn 4 (some .boolean), Cond.methodLink RX4 28 yX4_of, Cond.instanceMethod yX4_of, Cond.selects RX4 yX4_of yX4_of]
def wsX4_place_r2 : List Cond := [Cond.code yX4_of cX4_of 3 (some .int), Cond.methodLink RX4 20 yX4_at, Cond.static yX4_at, Cond.code yX4_at cX4_at 2 (some .int), Cond.methodLink RX4 38 yX4_clash, Cond.static yX4_clash, Cond.code yX4_clash cX4_clash 4 (some .boolean), Cond.methodLink RX4 45 yX4_isLast, Cond.instanceMethod yX4_isLast, Cond.selects RX4 yX4_isLast yX4_isLast, Cond.code yX4_isLast cX4_isLast 5 (some .boolean), Cond.methodLink RX4 54 yX4_gap, Cond.instanceMethod yX4_gap, Cond.selects RX4 yX4_gap yX4_gap, Cond.code yX4_gap cX4_gap 7 (some .int), Cond.methodLink RX4 84 yX4_get, Cond.instanceMethod yX4_get, Cond.selects RX4 yX4_get yX4_get, Cond.code yX4_get cX4_get 6 none, Cond.fieldLink RX4 58 "LightBurstsModel" "fate" "I", Cond.fieldLink RX4 62 "LightBurstsModel" "on" "I", Cond.fieldLink RX4 65 "LightBurstsModel" "from" "I", Cond.fieldLink RX4 68 "LightBurstsModel" "size" "I", Cond.fieldLink RX4 71 "LightBurstsModel" "by" "I"]
def wsX4_place_r3 : List Cond := [Cond.methodLink RX4 88 yX4_lineFor, Cond.instanceMethod yX4_lineFor, Cond.selects RX4 yX4_lineFor yX4_lineFor, Cond.code yX4_lineFor cX4_lineFor 9 (some .int), Cond.methodLink RX4 74 yX4_isLineClear, Cond.instanceMethod yX4_isLineClear, Cond.selects RX4 yX4_isLineClear yX4_isLineClear, Cond.code yX4_isLineClear cX4_isLineClear 5 (some .boolean), Cond.methodLink RX4 31 yX4_isOnLine, Cond.instanceMethod yX4_isOnLine, Cond.selects RX4 yX4_isOnLine yX4_isOnLine, Cond.code yX4_isOnLine cX4_isOnLine 3 (some .boolean), Cond.methodLink RX4 91 yX4_cut, Cond.instanceMethod yX4_cut, Cond.selects RX4 yX4_cut yX4_cut, Cond.code yX4_cut cX4_cut 9 none, Cond.methodLink RX4 81 yX4_pieceOf, Cond.instanceMethod yX4_pieceOf, Cond.selects RX4 yX4_pieceOf yX4_pieceOf, Cond.code yX4_pieceOf cX4_pieceOf 7 (some .int)]
def wsX4_place : List Cond := .code yX4_place cX4_place 8 none :: ((wsX4_place_r1 ++ (wsX4_place_r2 ++ wsX4_place_r3)) ++ wsX40)
def wsX4_comes : List Cond := .code yX4_comes cX4_comes 3 (some .int) :: ([.fieldLink RX4 7 "LightBurstsModel" "state" "[I"] ++ wsX40)
def wsX4_refusal : List Cond := .code yX4_refusal cX4_refusal 5 (some .int) :: ([.methodLink RX4 95 yX4_isOut, .static yX4_isOut, .initialized RX4, .code yX4_isOut cX4_isOut 1 (some .boolean), .methodLink RX4 24 yX4_in, .static yX4_in, .code yX4_in cX4_in 3 (some .boolean), .methodLink RX4 99 yX4_isColour, .static yX4_isColour, .code yX4_isColour cX4_isColour 1 (some .boolean)])
def wsX4_tell_r1 : List Cond := [Cond.fieldLink RX4 7 "LightBurstsModel" "state" "[I", Cond.fieldLink RX4 58 "LightBurstsModel" "fate" "I", Cond.fieldLink RX4 62 "LightBurstsModel" "on" "I", Cond.fieldLink RX4 65 "LightBurstsModel" "from" "I", Cond.fieldLink RX4 68 "LightBurstsModel" "size" "I", Cond.fieldLink RX4 71 "LightBurstsModel" "by" "I", Cond.methodLink RX4 102 yX4_refusal, Cond.static yX4_refusal, Cond.initialized RX4, Cond.code yX4_refusal cX4_refusal 5 (some .int), Cond.methodLink RX4 95 yX4_isOut, Cond.static yX4_isOut, Cond.code yX4_isOut cX4_isOut 1 (some .boolean), Cond.methodLink RX4 24 yX4_in, Cond.static yX4_in, Cond.code yX4_in cX4_in 3 (some .boolean), Cond.methodLink RX4 99 yX4_isColour, Cond.static yX4_isColour, Cond.code yX4_isColour cX4_isColour 1 (some .boolean), Cond.methodLink RX4 106 yX4_comes, Cond.instanceMethod yX4_comes, Cond.selects RX4 yX4_comes yX4_comes, Cond.code yX4_comes cX4_comes 3 (some .int), Cond.methodLink RX4 109 yX4_place]
def wsX4_tell_r2 : List Cond := [Cond.instanceMethod yX4_place, Cond.selects RX4 yX4_place yX4_place, Cond.code yX4_place cX4_place 8 none, Cond.methodLink RX4 77 yX4_colourFor, Cond.instanceMethod yX4_colourFor, Cond.selects RX4 yX4_colourFor yX4_colourFor, Cond.code yX4_colourFor cX4_colourFor 8 (some .int), Cond.methodLink RX4 48 yX4_away, Cond.static yX4_away, Cond.code yX4_away cX4_away 2 (some .int), Cond.methodLink RX4 51 yX4_isFree, Cond.instanceMethod yX4_isFree, Cond.selects RX4 yX4_isFree yX4_isFree, Cond.code yX4_isFree cX4_isFree 5 (some .boolean), Cond.methodLink RX4 42 yX4_isClear, Cond.instanceMethod yX4_isClear, Cond.selects RX4 yX4_isClear yX4_isClear, Cond.code yX4_isClear cX4_isClear 6 (some .boolean), Cond.methodLink RX4 35 yX4_isOn, Cond.instanceMethod yX4_isOn, Cond.selects RX4 yX4_isOn yX4_isOn, Cond.code yX4_isOn cX4_isOn 4 (some .boolean), Cond.methodLink RX4 28 yX4_of, Cond.instanceMethod yX4_of]
def wsX4_tell_r3 : List Cond := [Cond.selects RX4 yX4_of yX4_of, Cond.code yX4_of cX4_of 3 (some .int), Cond.methodLink RX4 20 yX4_at, Cond.static yX4_at, Cond.code yX4_at cX4_at 2 (some .int), Cond.methodLink RX4 38 yX4_clash, Cond.static yX4_clash, Cond.code yX4_clash cX4_clash 4 (some .boolean), Cond.methodLink RX4 45 yX4_isLast, Cond.instanceMethod yX4_isLast, Cond.selects RX4 yX4_isLast yX4_isLast, Cond.code yX4_isLast cX4_isLast 5 (some .boolean), Cond.methodLink RX4 54 yX4_gap, Cond.instanceMethod yX4_gap, Cond.selects RX4 yX4_gap yX4_gap, Cond.code yX4_gap cX4_gap 7 (some .int), Cond.methodLink RX4 84 yX4_get, Cond.instanceMethod yX4_get, Cond.selects RX4 yX4_get yX4_get, Cond.code yX4_get cX4_get 6 none, Cond.methodLink RX4 88 yX4_lineFor, Cond.instanceMethod yX4_lineFor, Cond.selects RX4 yX4_lineFor yX4_lineFor, Cond.code yX4_lineFor cX4_lineFor 9 (some .int)]
def wsX4_tell_r4 : List Cond := [Cond.methodLink RX4 74 yX4_isLineClear, Cond.instanceMethod yX4_isLineClear, Cond.selects RX4 yX4_isLineClear yX4_isLineClear, Cond.code yX4_isLineClear cX4_isLineClear 5 (some .boolean), Cond.methodLink RX4 31 yX4_isOnLine, Cond.instanceMethod yX4_isOnLine, Cond.selects RX4 yX4_isOnLine yX4_isOnLine, Cond.code yX4_isOnLine cX4_isOnLine 3 (some .boolean), Cond.methodLink RX4 91 yX4_cut, Cond.instanceMethod yX4_cut, Cond.selects RX4 yX4_cut yX4_cut, Cond.code yX4_cut cX4_cut 9 none, Cond.methodLink RX4 81 yX4_pieceOf, Cond.instanceMethod yX4_pieceOf, Cond.selects RX4 yX4_pieceOf yX4_pieceOf, Cond.code yX4_pieceOf cX4_pieceOf 7 (some .int)]
def wsX4_tell : List Cond := .code yX4_tell cX4_tell 8 (some .int) :: ((wsX4_tell_r1 ++ (wsX4_tell_r2 ++ (wsX4_tell_r3 ++ wsX4_tell_r4))) ++ wsX40)
def wsX4_would_r1 : List Cond := [Cond.fieldLink RX4 58 "LightBurstsModel" "fate" "I", Cond.methodLink RX4 102 yX4_refusal, Cond.static yX4_refusal, Cond.initialized RX4, Cond.code yX4_refusal cX4_refusal 5 (some .int), Cond.methodLink RX4 95 yX4_isOut, Cond.static yX4_isOut, Cond.code yX4_isOut cX4_isOut 1 (some .boolean), Cond.methodLink RX4 24 yX4_in, Cond.static yX4_in, Cond.code yX4_in cX4_in 3 (some .boolean), Cond.methodLink RX4 99 yX4_isColour, Cond.static yX4_isColour, Cond.code yX4_isColour cX4_isColour 1 (some .boolean), Cond.methodLink RX4 106 yX4_comes, Cond.instanceMethod yX4_comes, Cond.selects RX4 yX4_comes yX4_comes, Cond.code yX4_comes cX4_comes 3 (some .int), Cond.fieldLink RX4 7 "LightBurstsModel" "state" "[I", Cond.methodLink RX4 109 yX4_place, Cond.instanceMethod yX4_place, Cond.selects RX4 yX4_place yX4_place, Cond.code yX4_place cX4_place 8 none, Cond.methodLink RX4 77 yX4_colourFor]
def wsX4_would_r2 : List Cond := [Cond.instanceMethod yX4_colourFor, Cond.selects RX4 yX4_colourFor yX4_colourFor, Cond.code yX4_colourFor cX4_colourFor 8 (some .int), Cond.methodLink RX4 48 yX4_away, Cond.static yX4_away, Cond.code yX4_away cX4_away 2 (some .int), Cond.methodLink RX4 51 yX4_isFree, Cond.instanceMethod yX4_isFree, Cond.selects RX4 yX4_isFree yX4_isFree, Cond.code yX4_isFree cX4_isFree 5 (some .boolean), Cond.methodLink RX4 42 yX4_isClear, Cond.instanceMethod yX4_isClear, Cond.selects RX4 yX4_isClear yX4_isClear, Cond.code yX4_isClear cX4_isClear 6 (some .boolean), Cond.methodLink RX4 35 yX4_isOn, Cond.instanceMethod yX4_isOn, Cond.selects RX4 yX4_isOn yX4_isOn, Cond.code yX4_isOn cX4_isOn 4 (some .boolean), Cond.methodLink RX4 28 yX4_of, Cond.instanceMethod yX4_of, Cond.selects RX4 yX4_of yX4_of, Cond.code yX4_of cX4_of 3 (some .int), Cond.methodLink RX4 20 yX4_at, Cond.static yX4_at]
def wsX4_would_r3 : List Cond := [Cond.code yX4_at cX4_at 2 (some .int), Cond.methodLink RX4 38 yX4_clash, Cond.static yX4_clash, Cond.code yX4_clash cX4_clash 4 (some .boolean), Cond.methodLink RX4 45 yX4_isLast, Cond.instanceMethod yX4_isLast, Cond.selects RX4 yX4_isLast yX4_isLast, Cond.code yX4_isLast cX4_isLast 5 (some .boolean), Cond.methodLink RX4 54 yX4_gap, Cond.instanceMethod yX4_gap, Cond.selects RX4 yX4_gap yX4_gap, Cond.code yX4_gap cX4_gap 7 (some .int), Cond.methodLink RX4 84 yX4_get, Cond.instanceMethod yX4_get, Cond.selects RX4 yX4_get yX4_get, Cond.code yX4_get cX4_get 6 none, Cond.fieldLink RX4 62 "LightBurstsModel" "on" "I", Cond.fieldLink RX4 65 "LightBurstsModel" "from" "I", Cond.fieldLink RX4 68 "LightBurstsModel" "size" "I", Cond.fieldLink RX4 71 "LightBurstsModel" "by" "I", Cond.methodLink RX4 88 yX4_lineFor, Cond.instanceMethod yX4_lineFor, Cond.selects RX4 yX4_lineFor yX4_lineFor, Cond.code yX4_lineFor cX4_lineFor 9 (some .int)]
def wsX4_would_r4 : List Cond := [Cond.methodLink RX4 74 yX4_isLineClear, Cond.instanceMethod yX4_isLineClear, Cond.selects RX4 yX4_isLineClear yX4_isLineClear, Cond.code yX4_isLineClear cX4_isLineClear 5 (some .boolean), Cond.methodLink RX4 31 yX4_isOnLine, Cond.instanceMethod yX4_isOnLine, Cond.selects RX4 yX4_isOnLine yX4_isOnLine, Cond.code yX4_isOnLine cX4_isOnLine 3 (some .boolean), Cond.methodLink RX4 91 yX4_cut, Cond.instanceMethod yX4_cut, Cond.selects RX4 yX4_cut yX4_cut, Cond.code yX4_cut cX4_cut 9 none, Cond.methodLink RX4 81 yX4_pieceOf, Cond.instanceMethod yX4_pieceOf, Cond.selects RX4 yX4_pieceOf yX4_pieceOf, Cond.code yX4_pieceOf cX4_pieceOf 7 (some .int)]
def wsX4_would : List Cond := .code yX4_would cX4_would 7 (some .int) :: ((wsX4_would_r1 ++ (wsX4_would_r2 ++ (wsX4_would_r3 ++ wsX4_would_r4))) ++ wsX40)
def wsX4_back : List Cond := .code yX4_back cX4_back 3 (some .int) :: ([.fieldLink RX4 7 "LightBurstsModel" "state" "[I", .methodLink RX4 112 yX4_isBurst, .instanceMethod yX4_isBurst, .selects RX4 yX4_isBurst yX4_isBurst, .initialized RX4, .code yX4_isBurst cX4_isBurst 2 (some .boolean), .methodLink RX4 24 yX4_in, .static yX4_in, .code yX4_in cX4_in 3 (some .boolean), .methodLink RX4 28 yX4_of, .instanceMethod yX4_of, .selects RX4 yX4_of yX4_of, .code yX4_of cX4_of 3 (some .int), .methodLink RX4 20 yX4_at, .static yX4_at, .code yX4_at cX4_at 2 (some .int)] ++ wsX40)
def wsX4_burst : List Cond := .code yX4_burst cX4_burst 3 (some .int) :: ([.methodLink RX4 112 yX4_isBurst, .instanceMethod yX4_isBurst, .selects RX4 yX4_isBurst yX4_isBurst, .initialized RX4, .code yX4_isBurst cX4_isBurst 2 (some .boolean), .fieldLink RX4 7 "LightBurstsModel" "state" "[I", .methodLink RX4 24 yX4_in, .static yX4_in, .code yX4_in cX4_in 3 (some .boolean), .methodLink RX4 28 yX4_of, .instanceMethod yX4_of, .selects RX4 yX4_of yX4_of, .code yX4_of cX4_of 3 (some .int), .methodLink RX4 20 yX4_at, .static yX4_at, .code yX4_at cX4_at 2 (some .int)] ++ wsX40)
def wsX4_beginOf : List Cond := .code yX4_beginOf cX4_beginOf 3 (some .int) :: ([.methodLink RX4 28 yX4_of, .instanceMethod yX4_of, .selects RX4 yX4_of yX4_of, .initialized RX4, .code yX4_of cX4_of 3 (some .int), .fieldLink RX4 7 "LightBurstsModel" "state" "[I", .methodLink RX4 20 yX4_at, .static yX4_at, .code yX4_at cX4_at 2 (some .int)] ++ wsX40)
def wsX4_bookingAt : List Cond := .code yX4_bookingAt cX4_bookingAt 9 (some .int) :: ([.fieldLink RX4 7 "LightBurstsModel" "state" "[I", .methodLink RX4 31 yX4_isOnLine, .instanceMethod yX4_isOnLine, .selects RX4 yX4_isOnLine yX4_isOnLine, .initialized RX4, .code yX4_isOnLine cX4_isOnLine 3 (some .boolean), .methodLink RX4 28 yX4_of, .instanceMethod yX4_of, .selects RX4 yX4_of yX4_of, .code yX4_of cX4_of 3 (some .int), .methodLink RX4 20 yX4_at, .static yX4_at, .code yX4_at cX4_at 2 (some .int), .methodLink RX4 35 yX4_isOn, .instanceMethod yX4_isOn, .selects RX4 yX4_isOn yX4_isOn, .code yX4_isOn cX4_isOn 4 (some .boolean), .methodLink RX4 115 yX4_beginOf, .instanceMethod yX4_beginOf, .selects RX4 yX4_beginOf yX4_beginOf, .code yX4_beginOf cX4_beginOf 3 (some .int)] ++ wsX40)
def wsX4_booking_r1 : List Cond := [Cond.methodLink RX4 95 yX4_isOut, Cond.static yX4_isOut, Cond.initialized RX4, Cond.code yX4_isOut cX4_isOut 1 (some .boolean), Cond.methodLink RX4 24 yX4_in, Cond.static yX4_in, Cond.code yX4_in cX4_in 3 (some .boolean), Cond.methodLink RX4 99 yX4_isColour, Cond.static yX4_isColour, Cond.code yX4_isColour cX4_isColour 1 (some .boolean), Cond.methodLink RX4 118 yX4_bookingAt, Cond.instanceMethod yX4_bookingAt, Cond.selects RX4 yX4_bookingAt yX4_bookingAt, Cond.code yX4_bookingAt cX4_bookingAt 9 (some .int), Cond.fieldLink RX4 7 "LightBurstsModel" "state" "[I", Cond.methodLink RX4 31 yX4_isOnLine, Cond.instanceMethod yX4_isOnLine, Cond.selects RX4 yX4_isOnLine yX4_isOnLine, Cond.code yX4_isOnLine cX4_isOnLine 3 (some .boolean), Cond.methodLink RX4 28 yX4_of, Cond.instanceMethod yX4_of, Cond.selects RX4 yX4_of yX4_of, Cond.code yX4_of cX4_of 3 (some .int), Cond.methodLink RX4 20 yX4_at]
def wsX4_booking_r2 : List Cond := [Cond.static yX4_at, Cond.code yX4_at cX4_at 2 (some .int), Cond.methodLink RX4 35 yX4_isOn, Cond.instanceMethod yX4_isOn, Cond.selects RX4 yX4_isOn yX4_isOn, Cond.code yX4_isOn cX4_isOn 4 (some .boolean), Cond.methodLink RX4 115 yX4_beginOf, Cond.instanceMethod yX4_beginOf, Cond.selects RX4 yX4_beginOf yX4_beginOf, Cond.code yX4_beginOf cX4_beginOf 3 (some .int)]
def wsX4_booking : List Cond := .code yX4_booking cX4_booking 6 (some .int) :: ((wsX4_booking_r1 ++ wsX4_booking_r2) ++ wsX40)
def wsX4_held_r1 : List Cond := [Cond.methodLink RX4 24 yX4_in, Cond.static yX4_in, Cond.initialized RX4, Cond.code yX4_in cX4_in 3 (some .boolean), Cond.methodLink RX4 118 yX4_bookingAt, Cond.instanceMethod yX4_bookingAt, Cond.selects RX4 yX4_bookingAt yX4_bookingAt, Cond.code yX4_bookingAt cX4_bookingAt 9 (some .int), Cond.fieldLink RX4 7 "LightBurstsModel" "state" "[I", Cond.methodLink RX4 31 yX4_isOnLine, Cond.instanceMethod yX4_isOnLine, Cond.selects RX4 yX4_isOnLine yX4_isOnLine, Cond.code yX4_isOnLine cX4_isOnLine 3 (some .boolean), Cond.methodLink RX4 28 yX4_of, Cond.instanceMethod yX4_of, Cond.selects RX4 yX4_of yX4_of, Cond.code yX4_of cX4_of 3 (some .int), Cond.methodLink RX4 20 yX4_at, Cond.static yX4_at, Cond.code yX4_at cX4_at 2 (some .int), Cond.methodLink RX4 35 yX4_isOn, Cond.instanceMethod yX4_isOn, Cond.selects RX4 yX4_isOn yX4_isOn, Cond.code yX4_isOn cX4_isOn 4 (some .boolean)]
def wsX4_held_r2 : List Cond := [Cond.methodLink RX4 115 yX4_beginOf, Cond.instanceMethod yX4_beginOf, Cond.selects RX4 yX4_beginOf yX4_beginOf, Cond.code yX4_beginOf cX4_beginOf 3 (some .int)]
def wsX4_held : List Cond := .code yX4_held cX4_held 5 (some .int) :: ((wsX4_held_r1 ++ wsX4_held_r2) ++ wsX40)
def wsX4_isSpan : List Cond := .code yX4_isSpan cX4_isSpan 2 (some .boolean) :: ([.methodLink RX4 24 yX4_in, .static yX4_in, .initialized RX4, .code yX4_in cX4_in 3 (some .boolean)])
def wsX4_busy_r1 : List Cond := [Cond.methodLink RX4 95 yX4_isOut, Cond.static yX4_isOut, Cond.initialized RX4, Cond.code yX4_isOut cX4_isOut 1 (some .boolean), Cond.methodLink RX4 24 yX4_in, Cond.static yX4_in, Cond.code yX4_in cX4_in 3 (some .boolean), Cond.methodLink RX4 99 yX4_isColour, Cond.static yX4_isColour, Cond.code yX4_isColour cX4_isColour 1 (some .boolean), Cond.methodLink RX4 121 yX4_isSpan, Cond.static yX4_isSpan, Cond.code yX4_isSpan cX4_isSpan 2 (some .boolean), Cond.methodLink RX4 42 yX4_isClear, Cond.instanceMethod yX4_isClear, Cond.selects RX4 yX4_isClear yX4_isClear, Cond.code yX4_isClear cX4_isClear 6 (some .boolean), Cond.fieldLink RX4 7 "LightBurstsModel" "state" "[I", Cond.methodLink RX4 35 yX4_isOn, Cond.instanceMethod yX4_isOn, Cond.selects RX4 yX4_isOn yX4_isOn, Cond.code yX4_isOn cX4_isOn 4 (some .boolean), Cond.methodLink RX4 28 yX4_of, Cond.instanceMethod yX4_of]
def wsX4_busy_r2 : List Cond := [Cond.selects RX4 yX4_of yX4_of, Cond.code yX4_of cX4_of 3 (some .int), Cond.methodLink RX4 20 yX4_at, Cond.static yX4_at, Cond.code yX4_at cX4_at 2 (some .int), Cond.methodLink RX4 38 yX4_clash, Cond.static yX4_clash, Cond.code yX4_clash cX4_clash 4 (some .boolean)]
def wsX4_busy : List Cond := .code yX4_busy cX4_busy 7 (some .int) :: ((wsX4_busy_r1 ++ wsX4_busy_r2) ++ wsX40)
def wsX4_free_r1 : List Cond := [Cond.methodLink RX4 95 yX4_isOut, Cond.static yX4_isOut, Cond.initialized RX4, Cond.code yX4_isOut cX4_isOut 1 (some .boolean), Cond.methodLink RX4 24 yX4_in, Cond.static yX4_in, Cond.code yX4_in cX4_in 3 (some .boolean), Cond.methodLink RX4 121 yX4_isSpan, Cond.static yX4_isSpan, Cond.code yX4_isSpan cX4_isSpan 2 (some .boolean), Cond.methodLink RX4 42 yX4_isClear, Cond.instanceMethod yX4_isClear, Cond.selects RX4 yX4_isClear yX4_isClear, Cond.code yX4_isClear cX4_isClear 6 (some .boolean), Cond.fieldLink RX4 7 "LightBurstsModel" "state" "[I", Cond.methodLink RX4 35 yX4_isOn, Cond.instanceMethod yX4_isOn, Cond.selects RX4 yX4_isOn yX4_isOn, Cond.code yX4_isOn cX4_isOn 4 (some .boolean), Cond.methodLink RX4 28 yX4_of, Cond.instanceMethod yX4_of, Cond.selects RX4 yX4_of yX4_of, Cond.code yX4_of cX4_of 3 (some .int), Cond.methodLink RX4 20 yX4_at]
def wsX4_free_r2 : List Cond := [Cond.static yX4_at, Cond.code yX4_at cX4_at 2 (some .int), Cond.methodLink RX4 38 yX4_clash, Cond.static yX4_clash, Cond.code yX4_clash cX4_clash 4 (some .boolean)]
def wsX4_free : List Cond := .code yX4_free cX4_free 6 (some .int) :: ((wsX4_free_r1 ++ wsX4_free_r2) ++ wsX40)
def wsX4_next_r1 : List Cond := [Cond.fieldLink RX4 7 "LightBurstsModel" "state" "[I", Cond.methodLink RX4 95 yX4_isOut, Cond.static yX4_isOut, Cond.initialized RX4, Cond.code yX4_isOut cX4_isOut 1 (some .boolean), Cond.methodLink RX4 24 yX4_in, Cond.static yX4_in, Cond.code yX4_in cX4_in 3 (some .boolean), Cond.methodLink RX4 99 yX4_isColour, Cond.static yX4_isColour, Cond.code yX4_isColour cX4_isColour 1 (some .boolean), Cond.methodLink RX4 121 yX4_isSpan, Cond.static yX4_isSpan, Cond.code yX4_isSpan cX4_isSpan 2 (some .boolean), Cond.methodLink RX4 35 yX4_isOn, Cond.instanceMethod yX4_isOn, Cond.selects RX4 yX4_isOn yX4_isOn, Cond.code yX4_isOn cX4_isOn 4 (some .boolean), Cond.methodLink RX4 28 yX4_of, Cond.instanceMethod yX4_of, Cond.selects RX4 yX4_of yX4_of, Cond.code yX4_of cX4_of 3 (some .int), Cond.methodLink RX4 20 yX4_at, Cond.static yX4_at]
def wsX4_next_r2 : List Cond := [Cond.code yX4_at cX4_at 2 (some .int), Cond.methodLink RX4 42 yX4_isClear, Cond.instanceMethod yX4_isClear, Cond.selects RX4 yX4_isClear yX4_isClear, Cond.code yX4_isClear cX4_isClear 6 (some .boolean), Cond.methodLink RX4 38 yX4_clash, Cond.static yX4_clash, Cond.code yX4_clash cX4_clash 4 (some .boolean)]
def wsX4_next : List Cond := .code yX4_next cX4_next 8 (some .int) :: ((wsX4_next_r1 ++ wsX4_next_r2) ++ wsX40)
def wsX4_hole_r1 : List Cond := [Cond.fieldLink RX4 7 "LightBurstsModel" "state" "[I", Cond.methodLink RX4 95 yX4_isOut, Cond.static yX4_isOut, Cond.initialized RX4, Cond.code yX4_isOut cX4_isOut 1 (some .boolean), Cond.methodLink RX4 24 yX4_in, Cond.static yX4_in, Cond.code yX4_in cX4_in 3 (some .boolean), Cond.methodLink RX4 99 yX4_isColour, Cond.static yX4_isColour, Cond.code yX4_isColour cX4_isColour 1 (some .boolean), Cond.methodLink RX4 118 yX4_bookingAt, Cond.instanceMethod yX4_bookingAt, Cond.selects RX4 yX4_bookingAt yX4_bookingAt, Cond.code yX4_bookingAt cX4_bookingAt 9 (some .int), Cond.methodLink RX4 31 yX4_isOnLine, Cond.instanceMethod yX4_isOnLine, Cond.selects RX4 yX4_isOnLine yX4_isOnLine, Cond.code yX4_isOnLine cX4_isOnLine 3 (some .boolean), Cond.methodLink RX4 28 yX4_of, Cond.instanceMethod yX4_of, Cond.selects RX4 yX4_of yX4_of, Cond.code yX4_of cX4_of 3 (some .int), Cond.methodLink RX4 20 yX4_at]
def wsX4_hole_r2 : List Cond := [Cond.static yX4_at, Cond.code yX4_at cX4_at 2 (some .int), Cond.methodLink RX4 35 yX4_isOn, Cond.instanceMethod yX4_isOn, Cond.selects RX4 yX4_isOn yX4_isOn, Cond.code yX4_isOn cX4_isOn 4 (some .boolean), Cond.methodLink RX4 115 yX4_beginOf, Cond.instanceMethod yX4_beginOf, Cond.selects RX4 yX4_beginOf yX4_beginOf, Cond.code yX4_beginOf cX4_beginOf 3 (some .int)]
def wsX4_hole : List Cond := .code yX4_hole cX4_hole 10 (some .int) :: ((wsX4_hole_r1 ++ wsX4_hole_r2) ++ wsX40)
def wsX4_common : List Cond := .code yX4_common cX4_common 6 (some .int) :: ([])
def wsX4_tally : List Cond := .code yX4_tally cX4_tally 8 (some .int) :: ([.fieldLink RX4 7 "LightBurstsModel" "state" "[I", .methodLink RX4 24 yX4_in, .static yX4_in, .initialized RX4, .code yX4_in cX4_in 3 (some .boolean), .methodLink RX4 28 yX4_of, .instanceMethod yX4_of, .selects RX4 yX4_of yX4_of, .code yX4_of cX4_of 3 (some .int), .methodLink RX4 20 yX4_at, .static yX4_at, .code yX4_at cX4_at 2 (some .int), .methodLink RX4 124 yX4_common, .static yX4_common, .code yX4_common cX4_common 6 (some .int)] ++ wsX40)
def wsX4_ofFate : List Cond := .code yX4_ofFate cX4_ofFate 4 (some .int) :: ([.fieldLink RX4 7 "LightBurstsModel" "state" "[I", .methodLink RX4 28 yX4_of, .instanceMethod yX4_of, .selects RX4 yX4_of yX4_of, .initialized RX4, .code yX4_of cX4_of 3 (some .int), .methodLink RX4 20 yX4_at, .static yX4_at, .code yX4_at cX4_at 2 (some .int)] ++ wsX40)
def wsX4_count : List Cond := .code yX4_count cX4_count 2 (some .int) :: ([.fieldLink RX4 7 "LightBurstsModel" "state" "[I", .fieldLink RX4 16 "LightBurstsModel" "isKept" "[Z", .methodLink RX4 24 yX4_in, .static yX4_in, .initialized RX4, .code yX4_in cX4_in 3 (some .boolean), .methodLink RX4 127 yX4_ofFate, .instanceMethod yX4_ofFate, .selects RX4 yX4_ofFate yX4_ofFate, .code yX4_ofFate cX4_ofFate 4 (some .int), .methodLink RX4 28 yX4_of, .instanceMethod yX4_of, .selects RX4 yX4_of yX4_of, .code yX4_of cX4_of 3 (some .int), .methodLink RX4 20 yX4_at, .static yX4_at, .code yX4_at cX4_at 2 (some .int)] ++ wsX40)
def wsX4_image : List Cond := .code yX4_image cX4_image 3 (some .int) :: ([.fieldLink RX4 13 "LightBurstsModel" "images" "[I", .fieldLink RX4 7 "LightBurstsModel" "state" "[I", .fieldLink RX4 16 "LightBurstsModel" "isKept" "[Z", .methodLink RX4 24 yX4_in, .static yX4_in, .initialized RX4, .code yX4_in cX4_in 3 (some .boolean)] ++ wsX40)
def wsX4_restore : List Cond := .code yX4_restore cX4_restore 3 (some .int) :: ([.fieldLink RX4 16 "LightBurstsModel" "isKept" "[Z", .fieldLink RX4 7 "LightBurstsModel" "state" "[I", .fieldLink RX4 13 "LightBurstsModel" "images" "[I", .methodLink RX4 24 yX4_in, .static yX4_in, .initialized RX4, .code yX4_in cX4_in 3 (some .boolean)] ++ wsX40)
def wsJ9_abs_0f7a4 : List Cond := .code yJ9_abs_0f7a4 cJ9_abs_0f7a4 1 (some .int) :: ([])
def wsJ9_max_7cf53 : List Cond := .code yJ9_max_7cf53 cJ9_max_7cf53 2 (some .int) :: ([])
def wsJ9_min_7cf53 : List Cond := .code yJ9_min_7cf53 cJ9_min_7cf53 2 (some .int) :: ([])
def wsL_law_r1 : List Cond := [Cond.classLink RL 7 RX3, Cond.instantiable RX3 6, Cond.initialized RX3, Cond.classLink RL 10 RX4, Cond.instantiable RX4 8, Cond.initialized RX4, Cond.methodLink RL 9 yX3_init, Cond.instanceMethod yX3_init, Cond.code yX3_init cX3_init 1 none, Cond.methodLink RX3 1 objectInit, Cond.instanceMethod objectInit, Cond.code objectInit ⟨#[0xb1]⟩ 1 none, Cond.classLink RX3 7 RX0, Cond.instantiable RX0 5, Cond.initialized RX0, Cond.fieldLink RX3 10 "LightBursts" "book" "LLightBursts$Book;", Cond.fieldLink RX3 16 "LightBursts" "firstImage" "LLightBursts$Book;", Cond.fieldLink RX3 19 "LightBursts" "secondImage" "LLightBursts$Book;", Cond.fieldLink RX3 22 "LightBursts" "keptImages" "I", Cond.classLink RX3 26 RX2, Cond.instantiable RX2 4, Cond.initialized RX2, Cond.fieldLink RX3 29 "LightBursts" "track" "LLightBursts$Track;", Cond.classLink RX3 33 RX1]
def wsL_law_r2 : List Cond := [Cond.instantiable RX1 11, Cond.initialized RX1, Cond.fieldLink RX3 38 "LightBursts" "placer" "LLightBursts$Placer;", Cond.instanceMethod yX0_init, Cond.code yX0_init cX0_init 1 none, Cond.methodLink RX0 3 objectInit, Cond.fieldLink RX0 9 "LightBursts$Book" "now" "I", Cond.fieldLink RX0 15 "LightBursts$Book" "told" "I", Cond.methodLink RX0 22 ⟨"[I", "clone", "()Ljava/lang/Object;"⟩, Cond.sameMethod "[I" "java/lang/Object" "clone" "()Ljava/lang/Object;", Cond.native ⟨"java/lang/Object", "clone", "()Ljava/lang/Object;"⟩, Cond.instanceMethod ⟨"java/lang/Object", "clone", "()Ljava/lang/Object;"⟩, Cond.selects "[I" ⟨"[I", "clone", "()Ljava/lang/Object;"⟩ ⟨"java/lang/Object", "clone", "()Ljava/lang/Object;"⟩, Cond.classLink RX0 23 "[I", Cond.fieldLink RX0 27 "LightBursts$Book" "rules" "[I", Cond.arrayClass .int, Cond.fieldLink RX0 30 "LightBursts$Book" "lengths" "[I", Cond.fieldLink RX0 33 "LightBursts$Book" "facts" "[I", Cond.instanceMethod yX2_init, Cond.code yX2_init cX2_init 1 none, Cond.methodLink RX2 3 objectInit, Cond.fieldLink RX2 9 "LightBursts$Track" "size" "I", Cond.fieldLink RX2 15 "LightBursts$Track" "bursts" "[I", Cond.fieldLink RX2 19 "LightBursts$Track" "begins" "[I"]
def wsL_law_r3 : List Cond := [Cond.fieldLink RX2 22 "LightBursts$Track" "ends" "[I", Cond.instanceMethod yX1_init, Cond.code yX1_init cX1_init 3 none, Cond.methodLink RX1 3 objectInit, Cond.fieldLink RX1 9 "LightBursts$Placer" "out" "I", Cond.fieldLink RX1 15 "LightBursts$Placer" "colour" "I", Cond.fieldLink RX1 18 "LightBursts$Placer" "comes" "I", Cond.fieldLink RX1 21 "LightBursts$Placer" "ticks" "I", Cond.fieldLink RX1 24 "LightBursts$Placer" "fate" "I", Cond.fieldLink RX1 27 "LightBursts$Placer" "bookedOn" "I", Cond.fieldLink RX1 30 "LightBursts$Placer" "bookedFrom" "I", Cond.fieldLink RX1 33 "LightBursts$Placer" "bookedTicks" "I", Cond.fieldLink RX1 36 "LightBursts$Placer" "byLine" "I", Cond.fieldLink RX1 39 "LightBursts$Placer" "book" "LLightBursts$Book;", Cond.fieldLink RX1 43 "LightBursts$Placer" "track" "LLightBursts$Track;", Cond.methodLink RL 12 yX4_init, Cond.instanceMethod yX4_init, Cond.code yX4_init cX4_init 1 none, Cond.methodLink RX4 1 objectInit, Cond.fieldLink RX4 7 "LightBurstsModel" "state" "[I", Cond.fieldLink RX4 13 "LightBurstsModel" "images" "[I", Cond.arrayClass .boolean, Cond.fieldLink RX4 16 "LightBurstsModel" "isKept" "[Z", Cond.methodLink RL 13 yX3_rule]
def wsL_law_r4 : List Cond := [Cond.instanceMethod yX3_rule, Cond.selects RX3 yX3_rule yX3_rule, Cond.code yX3_rule cX3_rule 4 (some .int), Cond.fieldLink RX3 46 "LightBursts" "RULE_FROM" "[I", Cond.fieldLink RX3 50 "LightBursts" "RULE_TO" "[I", Cond.methodLink RX3 42 yX3_isBelow, Cond.static yX3_isBelow, Cond.code yX3_isBelow cX3_isBelow 2 (some .boolean), Cond.methodLink RL 17 yX4_rule, Cond.instanceMethod yX4_rule, Cond.selects RX4 yX4_rule yX4_rule, Cond.code yX4_rule cX4_rule 4 (some .int), Cond.methodLink RX4 24 yX4_in, Cond.static yX4_in, Cond.code yX4_in cX4_in 3 (some .boolean), Cond.methodLink RL 18 yX3_line, Cond.instanceMethod yX3_line, Cond.selects RX3 yX3_line yX3_line, Cond.code yX3_line cX3_line 4 (some .int), Cond.methodLink RX3 56 yX3_isWithin, Cond.static yX3_isWithin, Cond.code yX3_isWithin cX3_isWithin 3 (some .boolean), Cond.instanceMethod yX0_showLine, Cond.selects RX0 yX0_showLine yX0_showLine]
def wsL_law_r5 : List Cond := [Cond.code yX0_showLine cX0_showLine 4 none, Cond.instanceMethod yX2_clear, Cond.selects RX2 yX2_clear yX2_clear, Cond.code yX2_clear cX2_clear 1 none, Cond.methodLink RX0 59 yX0_fact, Cond.instanceMethod yX0_fact, Cond.selects RX0 yX0_fact yX0_fact, Cond.code yX0_fact cX0_fact 4 (some .int), Cond.instanceMethod yX2_add, Cond.selects RX2 yX2_add yX2_add, Cond.code yX2_add cX2_add 5 none, Cond.instanceMethod yX2_lastEnd, Cond.selects RX2 yX2_lastEnd yX2_lastEnd, Cond.code yX2_lastEnd cX2_lastEnd 1 (some .int), Cond.methodLink RX2 29 yX2_has, Cond.instanceMethod yX2_has, Cond.selects RX2 yX2_has yX2_has, Cond.code yX2_has cX2_has 2 (some .boolean), Cond.methodLink RL 21 yX4_line, Cond.instanceMethod yX4_line, Cond.selects RX4 yX4_line yX4_line, Cond.code yX4_line cX4_line 4 (some .int), Cond.methodLink RX4 31 yX4_isOnLine, Cond.instanceMethod yX4_isOnLine]
def wsL_law_r6 : List Cond := [Cond.selects RX4 yX4_isOnLine yX4_isOnLine, Cond.code yX4_isOnLine cX4_isOnLine 3 (some .boolean), Cond.methodLink RX4 28 yX4_of, Cond.instanceMethod yX4_of, Cond.selects RX4 yX4_of yX4_of, Cond.code yX4_of cX4_of 3 (some .int), Cond.methodLink RX4 20 yX4_at, Cond.static yX4_at, Cond.code yX4_at cX4_at 2 (some .int), Cond.methodLink RL 22 yX3_pass, Cond.instanceMethod yX3_pass, Cond.selects RX3 yX3_pass yX3_pass, Cond.code yX3_pass cX3_pass 2 (some .int), Cond.methodLink RL 26 yX4_pass, Cond.instanceMethod yX4_pass, Cond.selects RX4 yX4_pass yX4_pass, Cond.code yX4_pass cX4_pass 2 (some .int), Cond.methodLink RL 27 yX3_tell, Cond.instanceMethod yX3_tell, Cond.selects RX3 yX3_tell yX3_tell, Cond.code yX3_tell cX3_tell 8 (some .int), Cond.methodLink RX3 74 yX3_refusalOfBurst, Cond.static yX3_refusalOfBurst, Cond.code yX3_refusalOfBurst cX3_refusalOfBurst 5 (some .int)]
def wsL_law_r7 : List Cond := [Cond.methodLink RX3 106 yX3_isColour, Cond.static yX3_isColour, Cond.code yX3_isColour cX3_isColour 2 (some .boolean), Cond.instanceMethod yX0_comingTick, Cond.selects RX0 yX0_comingTick yX0_comingTick, Cond.code yX0_comingTick cX0_comingTick 3 (some .int), Cond.methodLink RX0 46 yX0_ruleNow, Cond.instanceMethod yX0_ruleNow, Cond.selects RX0 yX0_ruleNow yX0_ruleNow, Cond.code yX0_ruleNow cX0_ruleNow 2 (some .int), Cond.instanceMethod yX1_place, Cond.selects RX1 yX1_place yX1_place, Cond.code yX1_place cX1_place 5 none, Cond.methodLink RX1 47 yX1_decide, Cond.instanceMethod yX1_decide, Cond.selects RX1 yX1_decide yX1_decide, Cond.code yX1_decide cX1_decide 6 none, Cond.methodLink RX1 51 yX1_send, Cond.instanceMethod yX1_send, Cond.selects RX1 yX1_send yX1_send, Cond.code yX1_send cX1_send 2 none, Cond.methodLink RX1 70 yX1_bestColour, Cond.instanceMethod yX1_bestColour, Cond.selects RX1 yX1_bestColour yX1_bestColour]
def wsL_law_r8 : List Cond := [Cond.code yX1_bestColour cX1_bestColour 6 (some .int), Cond.methodLink RX1 80 yX1_awayFrom, Cond.instanceMethod yX1_awayFrom, Cond.selects RX1 yX1_awayFrom yX1_awayFrom, Cond.code yX1_awayFrom cX1_awayFrom 2 (some .int), Cond.methodLink RX1 119 Lib.Math.abs.name, Cond.static Lib.Math.abs.name, Cond.initialized "java/lang/Math", Cond.code Lib.Math.abs.name Lib.Math.abs.code 1 (some .int), Cond.instanceMethod yX0_showColour, Cond.selects RX0 yX0_showColour yX0_showColour, Cond.code yX0_showColour cX0_showColour 5 none, Cond.methodLink RX1 87 yX1_fillsVoids, Cond.instanceMethod yX1_fillsVoids, Cond.selects RX1 yX1_fillsVoids yX1_fillsVoids, Cond.code yX1_fillsVoids cX1_fillsVoids 1 (some .boolean), Cond.instanceMethod yX2_isFree, Cond.selects RX2 yX2_isFree yX2_isFree, Cond.code yX2_isFree cX2_isFree 4 (some .boolean), Cond.methodLink RX2 42 yX2_room, Cond.instanceMethod yX2_room, Cond.selects RX2 yX2_room yX2_room, Cond.code yX2_room cX2_room 6 (some .int), Cond.methodLink RX2 39 Lib.Math.min.name]
def wsL_law_r9 : List Cond := [Cond.static Lib.Math.min.name, Cond.code Lib.Math.min.name Lib.Math.min.code 2 (some .int), Cond.methodLink RX2 33 Lib.Math.max.name, Cond.static Lib.Math.max.name, Cond.code Lib.Math.max.name Lib.Math.max.code 2 (some .int), Cond.instanceMethod yX2_lastEndUpTo, Cond.selects RX2 yX2_lastEndUpTo yX2_lastEndUpTo, Cond.code yX2_lastEndUpTo cX2_lastEndUpTo 5 (some .int), Cond.methodLink RX1 100 yX1_isNearer, Cond.instanceMethod yX1_isNearer, Cond.selects RX1 yX1_isNearer yX1_isNearer, Cond.code yX1_isNearer cX1_isNearer 3 (some .boolean), Cond.methodLink RX1 54 yX1_delay, Cond.instanceMethod yX1_delay, Cond.selects RX1 yX1_delay yX1_delay, Cond.code yX1_delay cX1_delay 7 none, Cond.instanceMethod yX0_lengthNow, Cond.selects RX0 yX0_lengthNow yX0_lengthNow, Cond.code yX0_lengthNow cX0_lengthNow 2 (some .int), Cond.methodLink RX1 76 yX1_isLineFree, Cond.instanceMethod yX1_isLineFree, Cond.selects RX1 yX1_isLineFree yX1_isLineFree, Cond.code yX1_isLineFree cX1_isLineFree 2 (some .boolean), Cond.methodLink RX1 63 yX1_cut]
def wsL_law_r10 : List Cond := [Cond.instanceMethod yX1_cut, Cond.selects RX1 yX1_cut yX1_cut, Cond.code yX1_cut cX1_cut 8 none, Cond.instanceMethod yX2_pieceBegin, Cond.selects RX2 yX2_pieceBegin yX2_pieceBegin, Cond.code yX2_pieceBegin cX2_pieceBegin 8 (some .int), Cond.instanceMethod yX0_setFact, Cond.selects RX0 yX0_setFact yX0_setFact, Cond.code yX0_setFact cX0_setFact 5 none, Cond.instanceMethod yX1_writeTo, Cond.selects RX1 yX1_writeTo yX1_writeTo, Cond.code yX1_writeTo cX1_writeTo 2 none, Cond.methodLink RL 31 yX4_tell, Cond.instanceMethod yX4_tell, Cond.selects RX4 yX4_tell yX4_tell, Cond.code yX4_tell cX4_tell 8 (some .int), Cond.fieldLink RX4 58 "LightBurstsModel" "fate" "I", Cond.fieldLink RX4 62 "LightBurstsModel" "on" "I", Cond.fieldLink RX4 65 "LightBurstsModel" "from" "I", Cond.fieldLink RX4 68 "LightBurstsModel" "size" "I", Cond.fieldLink RX4 71 "LightBurstsModel" "by" "I", Cond.methodLink RX4 102 yX4_refusal, Cond.static yX4_refusal, Cond.code yX4_refusal cX4_refusal 5 (some .int)]
def wsL_law_r11 : List Cond := [Cond.methodLink RX4 95 yX4_isOut, Cond.static yX4_isOut, Cond.code yX4_isOut cX4_isOut 1 (some .boolean), Cond.methodLink RX4 99 yX4_isColour, Cond.static yX4_isColour, Cond.code yX4_isColour cX4_isColour 1 (some .boolean), Cond.methodLink RX4 106 yX4_comes, Cond.instanceMethod yX4_comes, Cond.selects RX4 yX4_comes yX4_comes, Cond.code yX4_comes cX4_comes 3 (some .int), Cond.methodLink RX4 109 yX4_place, Cond.instanceMethod yX4_place, Cond.selects RX4 yX4_place yX4_place, Cond.code yX4_place cX4_place 8 none, Cond.methodLink RX4 77 yX4_colourFor, Cond.instanceMethod yX4_colourFor, Cond.selects RX4 yX4_colourFor yX4_colourFor, Cond.code yX4_colourFor cX4_colourFor 8 (some .int), Cond.methodLink RX4 48 yX4_away, Cond.static yX4_away, Cond.code yX4_away cX4_away 2 (some .int), Cond.methodLink RX4 51 yX4_isFree, Cond.instanceMethod yX4_isFree, Cond.selects RX4 yX4_isFree yX4_isFree]
def wsL_law_r12 : List Cond := [Cond.code yX4_isFree cX4_isFree 5 (some .boolean), Cond.methodLink RX4 42 yX4_isClear, Cond.instanceMethod yX4_isClear, Cond.selects RX4 yX4_isClear yX4_isClear, Cond.code yX4_isClear cX4_isClear 6 (some .boolean), Cond.methodLink RX4 35 yX4_isOn, Cond.instanceMethod yX4_isOn, Cond.selects RX4 yX4_isOn yX4_isOn, Cond.code yX4_isOn cX4_isOn 4 (some .boolean), Cond.methodLink RX4 38 yX4_clash, Cond.static yX4_clash, Cond.code yX4_clash cX4_clash 4 (some .boolean), Cond.methodLink RX4 45 yX4_isLast, Cond.instanceMethod yX4_isLast, Cond.selects RX4 yX4_isLast yX4_isLast, Cond.code yX4_isLast cX4_isLast 5 (some .boolean), Cond.methodLink RX4 54 yX4_gap, Cond.instanceMethod yX4_gap, Cond.selects RX4 yX4_gap yX4_gap, Cond.code yX4_gap cX4_gap 7 (some .int), Cond.methodLink RX4 84 yX4_get, Cond.instanceMethod yX4_get, Cond.selects RX4 yX4_get yX4_get, Cond.code yX4_get cX4_get 6 none]
def wsL_law_r13 : List Cond := [Cond.methodLink RX4 88 yX4_lineFor, Cond.instanceMethod yX4_lineFor, Cond.selects RX4 yX4_lineFor yX4_lineFor, Cond.code yX4_lineFor cX4_lineFor 9 (some .int), Cond.methodLink RX4 74 yX4_isLineClear, Cond.instanceMethod yX4_isLineClear, Cond.selects RX4 yX4_isLineClear yX4_isLineClear, Cond.code yX4_isLineClear cX4_isLineClear 5 (some .boolean), Cond.methodLink RX4 91 yX4_cut, Cond.instanceMethod yX4_cut, Cond.selects RX4 yX4_cut yX4_cut, Cond.code yX4_cut cX4_cut 9 none, Cond.methodLink RX4 81 yX4_pieceOf, Cond.instanceMethod yX4_pieceOf, Cond.selects RX4 yX4_pieceOf yX4_pieceOf, Cond.code yX4_pieceOf cX4_pieceOf 7 (some .int), Cond.methodLink RL 32 yX3_would, Cond.instanceMethod yX3_would, Cond.selects RX3 yX3_would yX3_would, Cond.code yX3_would cX3_would 7 (some .int), Cond.methodLink RL 35 yX4_would, Cond.instanceMethod yX4_would, Cond.selects RX4 yX4_would yX4_would, Cond.code yX4_would cX4_would 7 (some .int)]
def wsL_law_r14 : List Cond := [Cond.methodLink RL 36 yX3_back, Cond.instanceMethod yX3_back, Cond.selects RX3 yX3_back yX3_back, Cond.code yX3_back cX3_back 3 (some .int), Cond.instanceMethod yX0_takeBack, Cond.selects RX0 yX0_takeBack yX0_takeBack, Cond.code yX0_takeBack cX0_takeBack 2 none, Cond.methodLink RX0 50 yX0_setFact, Cond.methodLink RL 39 yX4_back, Cond.instanceMethod yX4_back, Cond.selects RX4 yX4_back yX4_back, Cond.code yX4_back cX4_back 3 (some .int), Cond.methodLink RX4 112 yX4_isBurst, Cond.instanceMethod yX4_isBurst, Cond.selects RX4 yX4_isBurst yX4_isBurst, Cond.code yX4_isBurst cX4_isBurst 2 (some .boolean), Cond.methodLink RL 40 yX3_burst, Cond.instanceMethod yX3_burst, Cond.selects RX3 yX3_burst yX3_burst, Cond.code yX3_burst cX3_burst 3 (some .int), Cond.methodLink RL 43 yX4_burst, Cond.instanceMethod yX4_burst, Cond.selects RX4 yX4_burst yX4_burst, Cond.code yX4_burst cX4_burst 3 (some .int)]
def wsL_law_r15 : List Cond := [Cond.methodLink RL 44 yX3_booking, Cond.instanceMethod yX3_booking, Cond.selects RX3 yX3_booking yX3_booking, Cond.code yX3_booking cX3_booking 5 (some .int), Cond.methodLink RX3 113 yX3_ofBooking, Cond.instanceMethod yX3_ofBooking, Cond.selects RX3 yX3_ofBooking yX3_ofBooking, Cond.code yX3_ofBooking cX3_ofBooking 3 (some .int), Cond.instanceMethod yX2_begin, Cond.selects RX2 yX2_begin yX2_begin, Cond.code yX2_begin cX2_begin 2 (some .int), Cond.instanceMethod yX2_ticks, Cond.selects RX2 yX2_ticks yX2_ticks, Cond.code yX2_ticks cX2_ticks 2 (some .int), Cond.instanceMethod yX2_burstOf, Cond.selects RX2 yX2_burstOf yX2_burstOf, Cond.code yX2_burstOf cX2_burstOf 2 (some .int), Cond.methodLink RL 48 yX4_booking, Cond.instanceMethod yX4_booking, Cond.selects RX4 yX4_booking yX4_booking, Cond.code yX4_booking cX4_booking 6 (some .int), Cond.methodLink RX4 118 yX4_bookingAt, Cond.instanceMethod yX4_bookingAt, Cond.selects RX4 yX4_bookingAt yX4_bookingAt]
def wsL_law_r16 : List Cond := [Cond.code yX4_bookingAt cX4_bookingAt 9 (some .int), Cond.methodLink RX4 115 yX4_beginOf, Cond.instanceMethod yX4_beginOf, Cond.selects RX4 yX4_beginOf yX4_beginOf, Cond.code yX4_beginOf cX4_beginOf 3 (some .int), Cond.methodLink RL 49 yX3_held, Cond.instanceMethod yX3_held, Cond.selects RX3 yX3_held yX3_held, Cond.code yX3_held cX3_held 4 (some .int), Cond.methodLink RL 53 yX4_held, Cond.instanceMethod yX4_held, Cond.selects RX4 yX4_held yX4_held, Cond.code yX4_held cX4_held 5 (some .int), Cond.methodLink RL 54 yX3_busy, Cond.instanceMethod yX3_busy, Cond.selects RX3 yX3_busy yX3_busy, Cond.code yX3_busy cX3_busy 5 (some .int), Cond.methodLink RX3 116 yX3_isSpan, Cond.static yX3_isSpan, Cond.code yX3_isSpan cX3_isSpan 2 (some .boolean), Cond.instanceMethod yX2_bookedTicks, Cond.selects RX2 yX2_bookedTicks yX2_bookedTicks, Cond.code yX2_bookedTicks cX2_bookedTicks 5 (some .int), Cond.methodLink RL 57 yX4_busy]
def wsL_law_r17 : List Cond := [Cond.instanceMethod yX4_busy, Cond.selects RX4 yX4_busy yX4_busy, Cond.code yX4_busy cX4_busy 7 (some .int), Cond.methodLink RX4 121 yX4_isSpan, Cond.static yX4_isSpan, Cond.code yX4_isSpan cX4_isSpan 2 (some .boolean), Cond.methodLink RL 58 yX3_free, Cond.instanceMethod yX3_free, Cond.selects RX3 yX3_free yX3_free, Cond.code yX3_free cX3_free 6 (some .int), Cond.methodLink RL 61 yX4_free, Cond.instanceMethod yX4_free, Cond.selects RX4 yX4_free yX4_free, Cond.code yX4_free cX4_free 6 (some .int), Cond.methodLink RL 62 yX3_next, Cond.instanceMethod yX3_next, Cond.selects RX3 yX3_next yX3_next, Cond.code yX3_next cX3_next 5 (some .int), Cond.instanceMethod yX2_firstFree, Cond.selects RX2 yX2_firstFree yX2_firstFree, Cond.code yX2_firstFree cX2_firstFree 5 (some .int), Cond.methodLink RL 65 yX4_next, Cond.instanceMethod yX4_next, Cond.selects RX4 yX4_next yX4_next]
def wsL_law_r18 : List Cond := [Cond.code yX4_next cX4_next 8 (some .int), Cond.methodLink RL 66 yX3_hole, Cond.instanceMethod yX3_hole, Cond.selects RX3 yX3_hole yX3_hole, Cond.code yX3_hole cX3_hole 7 (some .int), Cond.instanceMethod yX2_closingOfVoid, Cond.selects RX2 yX2_closingOfVoid yX2_closingOfVoid, Cond.code yX2_closingOfVoid cX2_closingOfVoid 5 (some .int), Cond.methodLink RX2 46 yX2_voidBefore, Cond.instanceMethod yX2_voidBefore, Cond.selects RX2 yX2_voidBefore yX2_voidBefore, Cond.code yX2_voidBefore cX2_voidBefore 3 (some .int), Cond.methodLink RL 69 yX4_hole, Cond.instanceMethod yX4_hole, Cond.selects RX4 yX4_hole yX4_hole, Cond.code yX4_hole cX4_hole 10 (some .int), Cond.methodLink RL 70 yX3_tally, Cond.instanceMethod yX3_tally, Cond.selects RX3 yX3_tally yX3_tally, Cond.code yX3_tally cX3_tally 3 (some .int), Cond.instanceMethod yX0_burstsOfClass, Cond.selects RX0 yX0_burstsOfClass yX0_burstsOfClass, Cond.code yX0_burstsOfClass cX0_burstsOfClass 4 (some .int), Cond.methodLink RX0 66 yX0_isTallied]
def wsL_law_r19 : List Cond := [Cond.instanceMethod yX0_isTallied, Cond.selects RX0 yX0_isTallied yX0_isTallied, Cond.code yX0_isTallied cX0_isTallied 3 (some .boolean), Cond.instanceMethod yX0_sumOfClass, Cond.selects RX0 yX0_sumOfClass yX0_sumOfClass, Cond.code yX0_sumOfClass cX0_sumOfClass 5 (some .int), Cond.instanceMethod yX0_lostOfClass, Cond.selects RX0 yX0_lostOfClass yX0_lostOfClass, Cond.code yX0_lostOfClass cX0_lostOfClass 4 (some .int), Cond.methodLink RX3 148 yX3_partLost, Cond.instanceMethod yX3_partLost, Cond.selects RX3 yX3_partLost yX3_partLost, Cond.code yX3_partLost cX3_partLost 6 (some .int), Cond.methodLink RX3 178 yX3_commonDivisor, Cond.static yX3_commonDivisor, Cond.code yX3_commonDivisor cX3_commonDivisor 6 (some .int), Cond.methodLink RL 73 yX4_tally, Cond.instanceMethod yX4_tally, Cond.selects RX4 yX4_tally yX4_tally, Cond.code yX4_tally cX4_tally 8 (some .int), Cond.methodLink RX4 124 yX4_common, Cond.static yX4_common, Cond.code yX4_common cX4_common 6 (some .int), Cond.methodLink RL 74 yX3_count]
def wsL_law_r20 : List Cond := [Cond.instanceMethod yX3_count, Cond.selects RX3 yX3_count yX3_count, Cond.code yX3_count cX3_count 2 (some .int), Cond.instanceMethod yX0_burstsOfFate, Cond.selects RX0 yX0_burstsOfFate yX0_burstsOfFate, Cond.code yX0_burstsOfFate cX0_burstsOfFate 2 (some .int), Cond.methodLink RX0 69 yX0_burstsWhere, Cond.instanceMethod yX0_burstsWhere, Cond.selects RX0 yX0_burstsWhere yX0_burstsWhere, Cond.code yX0_burstsWhere cX0_burstsWhere 5 (some .int), Cond.instanceMethod yX0_burstsWith, Cond.selects RX0 yX0_burstsWith yX0_burstsWith, Cond.code yX0_burstsWith cX0_burstsWith 2 (some .int), Cond.methodLink RL 77 yX4_count, Cond.instanceMethod yX4_count, Cond.selects RX4 yX4_count yX4_count, Cond.code yX4_count cX4_count 2 (some .int), Cond.methodLink RX4 127 yX4_ofFate, Cond.instanceMethod yX4_ofFate, Cond.selects RX4 yX4_ofFate yX4_ofFate, Cond.code yX4_ofFate cX4_ofFate 4 (some .int), Cond.methodLink RL 78 yX3_image, Cond.instanceMethod yX3_image, Cond.selects RX3 yX3_image yX3_image]
def wsL_law_r21 : List Cond := [Cond.code yX3_image cX3_image 2 (some .int), Cond.methodLink RX3 164 yX3_imageOf, Cond.instanceMethod yX3_imageOf, Cond.selects RX3 yX3_imageOf yX3_imageOf, Cond.code yX3_imageOf cX3_imageOf 2 (some (.object "LightBursts$Book")), Cond.instanceMethod yX0_copyFrom, Cond.selects RX0 yX0_copyFrom yX0_copyFrom, Cond.code yX0_copyFrom cX0_copyFrom 2 none, Cond.methodLink RX0 36 arraycopyName, Cond.native arraycopyName, Cond.static arraycopyName, Cond.initialized "java/lang/System", Cond.methodLink RL 81 yX4_image, Cond.instanceMethod yX4_image, Cond.selects RX4 yX4_image yX4_image, Cond.code yX4_image cX4_image 3 (some .int), Cond.methodLink RL 82 yX3_restore, Cond.instanceMethod yX3_restore, Cond.selects RX3 yX3_restore yX3_restore, Cond.code yX3_restore cX3_restore 2 (some .int), Cond.methodLink RL 85 yX4_restore, Cond.instanceMethod yX4_restore, Cond.selects RX4 yX4_restore yX4_restore, Cond.code yX4_restore cX4_restore 3 (some .int)]
def wsL_law : List Cond := (wsL_law_r1 ++ (wsL_law_r2 ++ (wsL_law_r3 ++ (wsL_law_r4 ++ (wsL_law_r5 ++ (wsL_law_r6 ++ (wsL_law_r7 ++ (wsL_law_r8 ++ (wsL_law_r9 ++ (wsL_law_r10 ++ (wsL_law_r11 ++ (wsL_law_r12 ++ (wsL_law_r13 ++ (wsL_law_r14 ++ (wsL_law_r15 ++ (wsL_law_r16 ++ (wsL_law_r17 ++ (wsL_law_r18 ++ (wsL_law_r19 ++ (wsL_law_r20 ++ wsL_law_r21)))))))))))))))))))) ++ wsX30 ++ wsX40 ++ wsX00 ++ wsX20 ++ wsX10 ++ ([] : List Cond)
theorem wl_mem {big ws : List Cond} (ps : List Nat) (hp : ws.map some = ps.map (fun i => big[i]?)) : ∀ w ∈ ws, w ∈ big := by
  intro w hw
  have h1 : some w ∈ ps.map (fun i => big[i]?) := by rw [← hp]; exact List.mem_map.mpr ⟨w, hw, rfl⟩
  obtain ⟨i, -, hi⟩ := List.mem_map.mp h1
  exact List.mem_of_getElem? hi
set_option maxRecDepth 20000 in
theorem wsL_law_r1_in : ∀ w ∈ wsL_law_r1, w ∈ lw_tbl := wl_mem [72, 73, 65, 491, 492, 69, 74, 75, 76, 77, 78, 79, 80, 81, 66, 177, 178, 179, 180, 117, 118, 67, 181, 136] rfl
set_option maxRecDepth 20000 in
theorem wsL_law_r2_in : ∀ w ∈ wsL_law_r2, w ∈ lw_tbl := wl_mem [137, 68, 182, 83, 84, 85, 95, 98, 88, 89, 90, 91, 92, 94, 100, 116, 102, 104, 120, 121, 122, 123, 124, 125] rfl
set_option maxRecDepth 20000 in
theorem wsL_law_r3_in : ∀ w ∈ wsL_law_r3, w ∈ lw_tbl := wl_mem [126, 139, 140, 141, 144, 145, 146, 147, 148, 150, 151, 152, 153, 142, 143, 493, 494, 495, 496, 497, 498, 522, 499, 196] rfl
set_option maxRecDepth 20000 in
theorem wsL_law_r4_in : ∀ w ∈ wsL_law_r4, w ∈ lw_tbl := wl_mem [197, 198, 199, 203, 205, 200, 201, 202, 523, 524, 525, 526, 527, 528, 529, 207, 208, 209, 210, 211, 212, 213, 216, 0] rfl
set_option maxRecDepth 20000 in
theorem wsL_law_r5_in : ∀ w ∈ wsL_law_r5, w ∈ lw_tbl := wl_mem [217, 220, 1, 221, 222, 224, 2, 225, 229, 3, 230, 234, 4, 235, 236, 238, 5, 239, 530, 531, 532, 533, 534, 536] rfl
set_option maxRecDepth 20000 in
theorem wsL_law_r6_in : ∀ w ∈ wsL_law_r6, w ∈ lw_tbl := wl_mem [45, 537, 538, 540, 46, 541, 542, 543, 544, 240, 241, 242, 243, 545, 546, 547, 548, 244, 245, 246, 247, 248, 249, 250] rfl
set_option maxRecDepth 20000 in
theorem wsL_law_r7_in : ∀ w ∈ wsL_law_r7, w ∈ lw_tbl := wl_mem [251, 252, 253, 256, 6, 257, 258, 260, 7, 261, 264, 8, 265, 266, 268, 9, 269, 270, 272, 10, 273, 274, 276, 11] rfl
set_option maxRecDepth 20000 in
theorem wsL_law_r8_in : ∀ w ∈ wsL_law_r8, w ∈ lw_tbl := wl_mem [277, 278, 280, 12, 281, 282, 283, 70, 284, 288, 13, 289, 290, 292, 14, 293, 296, 15, 297, 298, 300, 16, 301, 302] rfl
set_option maxRecDepth 20000 in
theorem wsL_law_r9_in : ∀ w ∈ wsL_law_r9, w ∈ lw_tbl := wl_mem [303, 304, 305, 306, 307, 310, 17, 311, 312, 314, 18, 315, 316, 318, 19, 319, 322, 20, 323, 324, 326, 21, 327, 329] rfl
set_option maxRecDepth 20000 in
theorem wsL_law_r10_in : ∀ w ∈ wsL_law_r10, w ∈ lw_tbl := wl_mem [331, 22, 332, 335, 23, 336, 340, 24, 341, 344, 25, 345, 549, 550, 551, 552, 500, 501, 502, 503, 504, 553, 554, 555] rfl
set_option maxRecDepth 20000 in
theorem wsL_law_r11_in : ∀ w ∈ wsL_law_r11, w ∈ lw_tbl := wl_mem [556, 557, 558, 559, 560, 561, 562, 564, 47, 565, 566, 568, 48, 569, 570, 572, 49, 573, 574, 575, 576, 577, 579, 50] rfl
set_option maxRecDepth 20000 in
theorem wsL_law_r12_in : ∀ w ∈ wsL_law_r12, w ∈ lw_tbl := wl_mem [580, 581, 583, 51, 584, 585, 587, 52, 588, 589, 590, 591, 592, 594, 53, 595, 596, 598, 54, 599, 600, 602, 55, 603] rfl
set_option maxRecDepth 20000 in
theorem wsL_law_r13_in : ∀ w ∈ wsL_law_r13, w ∈ lw_tbl := wl_mem [604, 606, 56, 607, 608, 610, 57, 611, 612, 614, 58, 615, 616, 618, 59, 619, 347, 348, 349, 350, 620, 621, 622, 623] rfl
set_option maxRecDepth 20000 in
theorem wsL_law_r14_in : ∀ w ∈ wsL_law_r14, w ∈ lw_tbl := wl_mem [351, 352, 353, 354, 358, 26, 359, 360, 624, 625, 626, 627, 628, 630, 60, 631, 361, 362, 363, 364, 632, 633, 634, 635] rfl
set_option maxRecDepth 20000 in
theorem wsL_law_r15_in : ∀ w ∈ wsL_law_r15, w ∈ lw_tbl := wl_mem [365, 366, 367, 368, 370, 372, 27, 373, 376, 28, 377, 380, 29, 381, 384, 30, 385, 636, 637, 638, 639, 640, 642, 61] rfl
set_option maxRecDepth 20000 in
theorem wsL_law_r16_in : ∀ w ∈ wsL_law_r16, w ∈ lw_tbl := wl_mem [643, 644, 646, 62, 647, 386, 387, 388, 389, 648, 649, 650, 651, 390, 391, 392, 393, 394, 395, 396, 399, 31, 400, 652] rfl
set_option maxRecDepth 20000 in
theorem wsL_law_r17_in : ∀ w ∈ wsL_law_r17, w ∈ lw_tbl := wl_mem [653, 654, 655, 656, 657, 658, 401, 402, 403, 404, 659, 660, 661, 662, 406, 407, 408, 409, 412, 32, 413, 663, 664, 665] rfl
set_option maxRecDepth 20000 in
theorem wsL_law_r18_in : ∀ w ∈ wsL_law_r18, w ∈ lw_tbl := wl_mem [666, 414, 415, 416, 417, 420, 33, 421, 422, 424, 34, 425, 667, 668, 669, 670, 427, 428, 429, 430, 433, 35, 434, 435] rfl
set_option maxRecDepth 20000 in
theorem wsL_law_r19_in : ∀ w ∈ wsL_law_r19, w ∈ lw_tbl := wl_mem [437, 36, 438, 441, 37, 442, 445, 38, 446, 447, 449, 39, 450, 451, 452, 453, 671, 672, 673, 674, 675, 676, 677, 454] rfl
set_option maxRecDepth 20000 in
theorem wsL_law_r20_in : ∀ w ∈ wsL_law_r20, w ∈ lw_tbl := wl_mem [455, 456, 457, 460, 40, 461, 462, 464, 41, 465, 470, 42, 471, 678, 679, 680, 681, 682, 684, 63, 685, 472, 473, 474] rfl
set_option maxRecDepth 20000 in
theorem wsL_law_r21_in : ∀ w ∈ wsL_law_r21, w ∈ lw_tbl := wl_mem [475, 476, 478, 43, 479, 482, 44, 483, 484, 486, 485, 71, 686, 687, 688, 689, 487, 488, 489, 490, 690, 691, 692, 693] rfl
theorem wl_X3 : ∀ w ∈ wsX30, w ∈ lw_tbl := by decide +kernel
theorem wl_X4 : ∀ w ∈ wsX40, w ∈ lw_tbl := by decide +kernel
theorem wl_X0 : ∀ w ∈ wsX00, w ∈ lw_tbl := by decide +kernel
theorem wl_X2 : ∀ w ∈ wsX20, w ∈ lw_tbl := by decide +kernel
theorem wl_X1 : ∀ w ∈ wsX10, w ∈ lw_tbl := by decide +kernel
theorem wl_app {a b c : List Cond} (ha : ∀ w ∈ a, w ∈ c) (hb : ∀ w ∈ b, w ∈ c) : ∀ w ∈ a ++ b, w ∈ c := fun w h => (List.mem_append.mp h).elim (ha w) (hb w)
theorem wsL_law_in : ∀ w ∈ wsL_law, w ∈ lw_tbl := wl_app (wl_app (wl_app (wl_app (wl_app (wl_app (wl_app wsL_law_r1_in (wl_app wsL_law_r2_in (wl_app wsL_law_r3_in (wl_app wsL_law_r4_in (wl_app wsL_law_r5_in (wl_app wsL_law_r6_in (wl_app wsL_law_r7_in (wl_app wsL_law_r8_in (wl_app wsL_law_r9_in (wl_app wsL_law_r10_in (wl_app wsL_law_r11_in (wl_app wsL_law_r12_in (wl_app wsL_law_r13_in (wl_app wsL_law_r14_in (wl_app wsL_law_r15_in (wl_app wsL_law_r16_in (wl_app wsL_law_r17_in (wl_app wsL_law_r18_in (wl_app wsL_law_r19_in (wl_app wsL_law_r20_in wsL_law_r21_in)))))))))))))))))))) wl_X3) wl_X4) wl_X0) wl_X2) wl_X1) (fun w h => absurd h List.not_mem_nil)
theorem inlX0 : ∀ w ∈ wsX00, w ∈ wsL_law := fun _ h => List.mem_append_left _ (List.mem_append_left _ (List.mem_append_left _ (List.mem_append_right _ h)))
theorem inX0 : ∀ w ∈ wsX00, w ∈ lw_tbl := fun w h => wsL_law_in w (inlX0 w h)
theorem inlX1 : ∀ w ∈ wsX10, w ∈ wsL_law := fun _ h => List.mem_append_left _ (List.mem_append_right _ h)
theorem inX1 : ∀ w ∈ wsX10, w ∈ lw_tbl := fun w h => wsL_law_in w (inlX1 w h)
theorem inlX2 : ∀ w ∈ wsX20, w ∈ wsL_law := fun _ h => List.mem_append_left _ (List.mem_append_left _ (List.mem_append_right _ h))
theorem inX2 : ∀ w ∈ wsX20, w ∈ lw_tbl := fun w h => wsL_law_in w (inlX2 w h)
theorem inlX3 : ∀ w ∈ wsX30, w ∈ wsL_law := fun _ h => List.mem_append_left _ (List.mem_append_left _ (List.mem_append_left _ (List.mem_append_left _ (List.mem_append_left _ (List.mem_append_right _ h)))))
theorem inX3 : ∀ w ∈ wsX30, w ∈ lw_tbl := fun w h => wsL_law_in w (inlX3 w h)
theorem inlX4 : ∀ w ∈ wsX40, w ∈ wsL_law := fun _ h => List.mem_append_left _ (List.mem_append_left _ (List.mem_append_left _ (List.mem_append_left _ (List.mem_append_right _ h))))
theorem inX4 : ∀ w ∈ wsX40, w ∈ lw_tbl := fun w h => wsL_law_in w (inlX4 w h)
theorem inJx8e188 : ∀ w ∈ wsJx8e1880, w ∈ lw_tbl := by decide +kernel
theorem inJ9 : ∀ w ∈ wsJ90, w ∈ lw_tbl := by decide +kernel
theorem inJ10 : ∀ w ∈ wsJ100, w ∈ lw_tbl := by decide +kernel
end
section
theorem dX0_init_0 : decode cX0_init 0 = .ok (.aload_n 0, 1) := by decide +kernel
theorem dX0_init_1 : decode cX0_init 1 = .ok (.invokespecial 3, 3) := by decide +kernel
theorem dX0_init_4 : decode cX0_init 4 = .ok (.aload_n 0, 1) := by decide +kernel
theorem dX0_init_5 : decode cX0_init 5 = .ok (.iconst 0, 1) := by decide +kernel
theorem dX0_init_6 : decode cX0_init 6 = .ok (.putfield 9, 3) := by decide +kernel
theorem dX0_init_9 : decode cX0_init 9 = .ok (.aload_n 0, 1) := by decide +kernel
theorem dX0_init_10 : decode cX0_init 10 = .ok (.iconst 0, 1) := by decide +kernel
theorem dX0_init_11 : decode cX0_init 11 = .ok (.putfield 15, 3) := by decide +kernel
theorem dX0_init_14 : decode cX0_init 14 = .ok (.aload_n 0, 1) := by decide +kernel
theorem dX0_init_15 : decode cX0_init 15 = .ok (.getstatic 18, 3) := by decide +kernel
theorem dX0_init_18 : decode cX0_init 18 = .ok (.invokevirtual 22, 3) := by decide +kernel
theorem dX0_init_21 : decode cX0_init 21 = .ok (.checkcast 23, 3) := by decide +kernel
theorem dX0_init_24 : decode cX0_init 24 = .ok (.putfield 27, 3) := by decide +kernel
theorem dX0_init_27 : decode cX0_init 27 = .ok (.aload_n 0, 1) := by decide +kernel
theorem dX0_init_28 : decode cX0_init 28 = .ok (.iconst 3, 1) := by decide +kernel
theorem dX0_init_29 : decode cX0_init 29 = .ok (.newarray .int, 2) := by decide +kernel
theorem dX0_init_31 : decode cX0_init 31 = .ok (.putfield 30, 3) := by decide +kernel
theorem dX0_init_34 : decode cX0_init 34 = .ok (.aload_n 0, 1) := by decide +kernel
theorem dX0_init_35 : decode cX0_init 35 = .ok (.sipush 528, 3) := by decide +kernel
theorem dX0_init_38 : decode cX0_init 38 = .ok (.newarray .int, 2) := by decide +kernel
theorem dX0_init_40 : decode cX0_init 40 = .ok (.putfield 33, 3) := by decide +kernel
theorem dX0_init_43 : decode cX0_init 43 = .ok (.return_, 1) := by decide +kernel
theorem dX0_copyFrom_0 : decode cX0_copyFrom 0 = .ok (.aload_n 0, 1) := by decide +kernel
theorem dX0_copyFrom_1 : decode cX0_copyFrom 1 = .ok (.aload_n 1, 1) := by decide +kernel
theorem dX0_copyFrom_2 : decode cX0_copyFrom 2 = .ok (.getfield 9, 3) := by decide +kernel
theorem dX0_copyFrom_5 : decode cX0_copyFrom 5 = .ok (.putfield 9, 3) := by decide +kernel
theorem dX0_copyFrom_8 : decode cX0_copyFrom 8 = .ok (.aload_n 0, 1) := by decide +kernel
theorem dX0_copyFrom_9 : decode cX0_copyFrom 9 = .ok (.aload_n 1, 1) := by decide +kernel
theorem dX0_copyFrom_10 : decode cX0_copyFrom 10 = .ok (.getfield 15, 3) := by decide +kernel
theorem dX0_copyFrom_13 : decode cX0_copyFrom 13 = .ok (.putfield 15, 3) := by decide +kernel
theorem dX0_copyFrom_16 : decode cX0_copyFrom 16 = .ok (.aload_n 1, 1) := by decide +kernel
theorem dX0_copyFrom_17 : decode cX0_copyFrom 17 = .ok (.getfield 27, 3) := by decide +kernel
theorem dX0_copyFrom_20 : decode cX0_copyFrom 20 = .ok (.iconst 0, 1) := by decide +kernel
theorem dX0_copyFrom_21 : decode cX0_copyFrom 21 = .ok (.aload_n 0, 1) := by decide +kernel
theorem dX0_copyFrom_22 : decode cX0_copyFrom 22 = .ok (.getfield 27, 3) := by decide +kernel
theorem dX0_copyFrom_25 : decode cX0_copyFrom 25 = .ok (.iconst 0, 1) := by decide +kernel
theorem dX0_copyFrom_26 : decode cX0_copyFrom 26 = .ok (.bipush 6, 2) := by decide +kernel
theorem dX0_copyFrom_28 : decode cX0_copyFrom 28 = .ok (.invokestatic 36, 3) := by decide +kernel
theorem dX0_copyFrom_31 : decode cX0_copyFrom 31 = .ok (.aload_n 1, 1) := by decide +kernel
theorem dX0_copyFrom_32 : decode cX0_copyFrom 32 = .ok (.getfield 30, 3) := by decide +kernel
theorem dX0_copyFrom_35 : decode cX0_copyFrom 35 = .ok (.iconst 0, 1) := by decide +kernel
theorem dX0_copyFrom_36 : decode cX0_copyFrom 36 = .ok (.aload_n 0, 1) := by decide +kernel
theorem dX0_copyFrom_37 : decode cX0_copyFrom 37 = .ok (.getfield 30, 3) := by decide +kernel
theorem dX0_copyFrom_40 : decode cX0_copyFrom 40 = .ok (.iconst 0, 1) := by decide +kernel
theorem dX0_copyFrom_41 : decode cX0_copyFrom 41 = .ok (.iconst 3, 1) := by decide +kernel
theorem dX0_copyFrom_42 : decode cX0_copyFrom 42 = .ok (.invokestatic 36, 3) := by decide +kernel
theorem dX0_copyFrom_45 : decode cX0_copyFrom 45 = .ok (.aload_n 1, 1) := by decide +kernel
theorem dX0_copyFrom_46 : decode cX0_copyFrom 46 = .ok (.getfield 33, 3) := by decide +kernel
theorem dX0_copyFrom_49 : decode cX0_copyFrom 49 = .ok (.iconst 0, 1) := by decide +kernel
theorem dX0_copyFrom_50 : decode cX0_copyFrom 50 = .ok (.aload_n 0, 1) := by decide +kernel
theorem dX0_copyFrom_51 : decode cX0_copyFrom 51 = .ok (.getfield 33, 3) := by decide +kernel
theorem dX0_copyFrom_54 : decode cX0_copyFrom 54 = .ok (.iconst 0, 1) := by decide +kernel
theorem dX0_copyFrom_55 : decode cX0_copyFrom 55 = .ok (.sipush 528, 3) := by decide +kernel
theorem dX0_copyFrom_58 : decode cX0_copyFrom 58 = .ok (.invokestatic 36, 3) := by decide +kernel
theorem dX0_copyFrom_61 : decode cX0_copyFrom 61 = .ok (.return_, 1) := by decide +kernel
set_option maxRecDepth 20000 in
theorem ggX0_ruleNow_X3_isBelow : GoodIn wsX0_ruleNow wsX3_isBelow := goodIn_r _ [4] (by decide +kernel) (by decide +kernel)
set_option maxRecDepth 20000 in
theorem gX0_ruleNow_X3_isBelow_n42 : GoodIn wsX0_ruleNow (wsX3_isBelow) := ggX0_ruleNow_X3_isBelow
theorem dX0_ruleNow_0 : decode cX0_ruleNow 0 = .ok (.iload_n 1, 1) := by decide +kernel
theorem dX0_ruleNow_1 : decode cX0_ruleNow 1 = .ok (.bipush 6, 2) := by decide +kernel
theorem dX0_ruleNow_3 : decode cX0_ruleNow 3 = .ok (.invokestatic 42, 3) := by decide +kernel
theorem dX0_ruleNow_6 : decode cX0_ruleNow 6 = .ok (.ifCond .eq 12, 3) := by decide +kernel
theorem dX0_ruleNow_9 : decode cX0_ruleNow 9 = .ok (.aload_n 0, 1) := by decide +kernel
theorem dX0_ruleNow_10 : decode cX0_ruleNow 10 = .ok (.getfield 27, 3) := by decide +kernel
theorem dX0_ruleNow_13 : decode cX0_ruleNow 13 = .ok (.iload_n 1, 1) := by decide +kernel
theorem dX0_ruleNow_14 : decode cX0_ruleNow 14 = .ok (.iaload, 1) := by decide +kernel
theorem dX0_ruleNow_15 : decode cX0_ruleNow 15 = .ok (.goto 5, 3) := by decide +kernel
theorem dX0_ruleNow_18 : decode cX0_ruleNow 18 = .ok (.bipush (-6), 2) := by decide +kernel
theorem dX0_ruleNow_20 : decode cX0_ruleNow 20 = .ok (.ireturn, 1) := by decide +kernel
set_option maxRecDepth 20000 in
theorem ggX0_lengthNow_X3_isBelow : GoodIn wsX0_lengthNow wsX3_isBelow := goodIn_r _ [4] (by decide +kernel) (by decide +kernel)
set_option maxRecDepth 20000 in
theorem gX0_lengthNow_X3_isBelow_n42 : GoodIn wsX0_lengthNow (wsX3_isBelow) := ggX0_lengthNow_X3_isBelow
theorem dX0_lengthNow_0 : decode cX0_lengthNow 0 = .ok (.iload_n 1, 1) := by decide +kernel
theorem dX0_lengthNow_1 : decode cX0_lengthNow 1 = .ok (.iconst 3, 1) := by decide +kernel
theorem dX0_lengthNow_2 : decode cX0_lengthNow 2 = .ok (.invokestatic 42, 3) := by decide +kernel
theorem dX0_lengthNow_5 : decode cX0_lengthNow 5 = .ok (.ifCond .eq 12, 3) := by decide +kernel
theorem dX0_lengthNow_8 : decode cX0_lengthNow 8 = .ok (.aload_n 0, 1) := by decide +kernel
theorem dX0_lengthNow_9 : decode cX0_lengthNow 9 = .ok (.getfield 30, 3) := by decide +kernel
theorem dX0_lengthNow_12 : decode cX0_lengthNow 12 = .ok (.iload_n 1, 1) := by decide +kernel
theorem dX0_lengthNow_13 : decode cX0_lengthNow 13 = .ok (.iaload, 1) := by decide +kernel
theorem dX0_lengthNow_14 : decode cX0_lengthNow 14 = .ok (.goto 5, 3) := by decide +kernel
theorem dX0_lengthNow_17 : decode cX0_lengthNow 17 = .ok (.bipush (-6), 2) := by decide +kernel
theorem dX0_lengthNow_19 : decode cX0_lengthNow 19 = .ok (.ireturn, 1) := by decide +kernel
set_option maxRecDepth 20000 in
theorem ggX0_comingTick_X0_ruleNow : GoodIn wsX0_comingTick wsX0_ruleNow := goodIn_r _ [6, 7, 8, 9, 10, 11, 12, 13, 14, 15] (by decide +kernel) (by decide +kernel)
set_option maxRecDepth 20000 in
theorem gX0_comingTick_X0_ruleNow : GoodIn wsX0_comingTick (wsV RX0 46 RX0 yX0_ruleNow wsX0_ruleNow) := goodIn_app (goodIn_of _ (by decide +kernel)) ggX0_comingTick_X0_ruleNow
theorem dX0_comingTick_0 : decode cX0_comingTick 0 = .ok (.aload_n 0, 1) := by decide +kernel
theorem dX0_comingTick_1 : decode cX0_comingTick 1 = .ok (.getfield 9, 3) := by decide +kernel
theorem dX0_comingTick_4 : decode cX0_comingTick 4 = .ok (.aload_n 0, 1) := by decide +kernel
theorem dX0_comingTick_5 : decode cX0_comingTick 5 = .ok (.iconst 1, 1) := by decide +kernel
theorem dX0_comingTick_6 : decode cX0_comingTick 6 = .ok (.invokevirtual 46, 3) := by decide +kernel
theorem dX0_comingTick_9 : decode cX0_comingTick 9 = .ok (.iload_n 2, 1) := by decide +kernel
theorem dX0_comingTick_10 : decode cX0_comingTick 10 = .ok (.imul, 1) := by decide +kernel
theorem dX0_comingTick_11 : decode cX0_comingTick 11 = .ok (.iadd, 1) := by decide +kernel
theorem dX0_comingTick_12 : decode cX0_comingTick 12 = .ok (.aload_n 0, 1) := by decide +kernel
theorem dX0_comingTick_13 : decode cX0_comingTick 13 = .ok (.iconst 2, 1) := by decide +kernel
theorem dX0_comingTick_14 : decode cX0_comingTick 14 = .ok (.invokevirtual 46, 3) := by decide +kernel
theorem dX0_comingTick_17 : decode cX0_comingTick 17 = .ok (.iload_n 1, 1) := by decide +kernel
theorem dX0_comingTick_18 : decode cX0_comingTick 18 = .ok (.imul, 1) := by decide +kernel
theorem dX0_comingTick_19 : decode cX0_comingTick 19 = .ok (.iadd, 1) := by decide +kernel
theorem dX0_comingTick_20 : decode cX0_comingTick 20 = .ok (.ireturn, 1) := by decide +kernel
set_option maxRecDepth 20000 in
theorem ggX0_fact_X3_isBelow : GoodIn wsX0_fact wsX3_isBelow := goodIn_r _ [4] (by decide +kernel) (by decide +kernel)
set_option maxRecDepth 20000 in
theorem gX0_fact_X3_isBelow_n42 : GoodIn wsX0_fact (wsX3_isBelow) := ggX0_fact_X3_isBelow
theorem dX0_fact_0 : decode cX0_fact 0 = .ok (.iload_n 1, 1) := by decide +kernel
theorem dX0_fact_1 : decode cX0_fact 1 = .ok (.bipush 11, 2) := by decide +kernel
theorem dX0_fact_3 : decode cX0_fact 3 = .ok (.imul, 1) := by decide +kernel
theorem dX0_fact_4 : decode cX0_fact 4 = .ok (.iload_n 2, 1) := by decide +kernel
theorem dX0_fact_5 : decode cX0_fact 5 = .ok (.iadd, 1) := by decide +kernel
theorem dX0_fact_6 : decode cX0_fact 6 = .ok (.istore_n 3, 1) := by decide +kernel
theorem dX0_fact_7 : decode cX0_fact 7 = .ok (.iload_n 3, 1) := by decide +kernel
theorem dX0_fact_8 : decode cX0_fact 8 = .ok (.sipush 528, 3) := by decide +kernel
theorem dX0_fact_11 : decode cX0_fact 11 = .ok (.invokestatic 42, 3) := by decide +kernel
theorem dX0_fact_14 : decode cX0_fact 14 = .ok (.ifCond .eq 12, 3) := by decide +kernel
theorem dX0_fact_17 : decode cX0_fact 17 = .ok (.aload_n 0, 1) := by decide +kernel
theorem dX0_fact_18 : decode cX0_fact 18 = .ok (.getfield 33, 3) := by decide +kernel
theorem dX0_fact_21 : decode cX0_fact 21 = .ok (.iload_n 3, 1) := by decide +kernel
theorem dX0_fact_22 : decode cX0_fact 22 = .ok (.iaload, 1) := by decide +kernel
theorem dX0_fact_23 : decode cX0_fact 23 = .ok (.goto 5, 3) := by decide +kernel
theorem dX0_fact_26 : decode cX0_fact 26 = .ok (.bipush (-6), 2) := by decide +kernel
theorem dX0_fact_28 : decode cX0_fact 28 = .ok (.ireturn, 1) := by decide +kernel
set_option maxRecDepth 20000 in
theorem ggX0_setFact_X3_isBelow : GoodIn wsX0_setFact wsX3_isBelow := goodIn_r _ [4] (by decide +kernel) (by decide +kernel)
set_option maxRecDepth 20000 in
theorem gX0_setFact_X3_isBelow_n42 : GoodIn wsX0_setFact (wsX3_isBelow) := ggX0_setFact_X3_isBelow
theorem dX0_setFact_0 : decode cX0_setFact 0 = .ok (.iload_n 1, 1) := by decide +kernel
theorem dX0_setFact_1 : decode cX0_setFact 1 = .ok (.bipush 11, 2) := by decide +kernel
theorem dX0_setFact_3 : decode cX0_setFact 3 = .ok (.imul, 1) := by decide +kernel
theorem dX0_setFact_4 : decode cX0_setFact 4 = .ok (.iload_n 2, 1) := by decide +kernel
theorem dX0_setFact_5 : decode cX0_setFact 5 = .ok (.iadd, 1) := by decide +kernel
theorem dX0_setFact_6 : decode cX0_setFact 6 = .ok (.istore 4, 2) := by decide +kernel
theorem dX0_setFact_8 : decode cX0_setFact 8 = .ok (.iload 4, 2) := by decide +kernel
theorem dX0_setFact_10 : decode cX0_setFact 10 = .ok (.sipush 528, 3) := by decide +kernel
theorem dX0_setFact_13 : decode cX0_setFact 13 = .ok (.invokestatic 42, 3) := by decide +kernel
theorem dX0_setFact_16 : decode cX0_setFact 16 = .ok (.ifCond .eq 11, 3) := by decide +kernel
theorem dX0_setFact_19 : decode cX0_setFact 19 = .ok (.aload_n 0, 1) := by decide +kernel
theorem dX0_setFact_20 : decode cX0_setFact 20 = .ok (.getfield 33, 3) := by decide +kernel
theorem dX0_setFact_23 : decode cX0_setFact 23 = .ok (.iload 4, 2) := by decide +kernel
theorem dX0_setFact_25 : decode cX0_setFact 25 = .ok (.iload_n 3, 1) := by decide +kernel
theorem dX0_setFact_26 : decode cX0_setFact 26 = .ok (.iastore, 1) := by decide +kernel
theorem dX0_setFact_27 : decode cX0_setFact 27 = .ok (.return_, 1) := by decide +kernel
set_option maxRecDepth 20000 in
theorem ggX0_takeBack_X0_setFact : GoodIn wsX0_takeBack wsX0_setFact := goodIn_r _ [5, 6, 7, 8, 9, 10, 11, 12, 13, 14] (by decide +kernel) (by decide +kernel)
set_option maxRecDepth 20000 in
theorem gX0_takeBack_X0_setFact : GoodIn wsX0_takeBack (wsV RX0 50 RX0 yX0_setFact wsX0_setFact) := goodIn_app (goodIn_of _ (by decide +kernel)) ggX0_takeBack_X0_setFact
theorem dX0_takeBack_0 : decode cX0_takeBack 0 = .ok (.aload_n 0, 1) := by decide +kernel
theorem dX0_takeBack_1 : decode cX0_takeBack 1 = .ok (.iload_n 1, 1) := by decide +kernel
theorem dX0_takeBack_2 : decode cX0_takeBack 2 = .ok (.bipush 6, 2) := by decide +kernel
theorem dX0_takeBack_4 : decode cX0_takeBack 4 = .ok (.iconst 4, 1) := by decide +kernel
theorem dX0_takeBack_5 : decode cX0_takeBack 5 = .ok (.invokevirtual 50, 3) := by decide +kernel
theorem dX0_takeBack_8 : decode cX0_takeBack 8 = .ok (.aload_n 0, 1) := by decide +kernel
theorem dX0_takeBack_9 : decode cX0_takeBack 9 = .ok (.iload_n 1, 1) := by decide +kernel
theorem dX0_takeBack_10 : decode cX0_takeBack 10 = .ok (.bipush 7, 2) := by decide +kernel
theorem dX0_takeBack_12 : decode cX0_takeBack 12 = .ok (.bipush (-6), 2) := by decide +kernel
theorem dX0_takeBack_14 : decode cX0_takeBack 14 = .ok (.invokevirtual 50, 3) := by decide +kernel
theorem dX0_takeBack_17 : decode cX0_takeBack 17 = .ok (.aload_n 0, 1) := by decide +kernel
theorem dX0_takeBack_18 : decode cX0_takeBack 18 = .ok (.iload_n 1, 1) := by decide +kernel
theorem dX0_takeBack_19 : decode cX0_takeBack 19 = .ok (.bipush 8, 2) := by decide +kernel
theorem dX0_takeBack_21 : decode cX0_takeBack 21 = .ok (.bipush (-6), 2) := by decide +kernel
theorem dX0_takeBack_23 : decode cX0_takeBack 23 = .ok (.invokevirtual 50, 3) := by decide +kernel
theorem dX0_takeBack_26 : decode cX0_takeBack 26 = .ok (.aload_n 0, 1) := by decide +kernel
theorem dX0_takeBack_27 : decode cX0_takeBack 27 = .ok (.iload_n 1, 1) := by decide +kernel
theorem dX0_takeBack_28 : decode cX0_takeBack 28 = .ok (.bipush 9, 2) := by decide +kernel
theorem dX0_takeBack_30 : decode cX0_takeBack 30 = .ok (.iconst 0, 1) := by decide +kernel
theorem dX0_takeBack_31 : decode cX0_takeBack 31 = .ok (.invokevirtual 50, 3) := by decide +kernel
theorem dX0_takeBack_34 : decode cX0_takeBack 34 = .ok (.aload_n 0, 1) := by decide +kernel
theorem dX0_takeBack_35 : decode cX0_takeBack 35 = .ok (.iload_n 1, 1) := by decide +kernel
theorem dX0_takeBack_36 : decode cX0_takeBack 36 = .ok (.bipush 10, 2) := by decide +kernel
theorem dX0_takeBack_38 : decode cX0_takeBack 38 = .ok (.bipush (-6), 2) := by decide +kernel
theorem dX0_takeBack_40 : decode cX0_takeBack 40 = .ok (.invokevirtual 50, 3) := by decide +kernel
theorem dX0_takeBack_43 : decode cX0_takeBack 43 = .ok (.return_, 1) := by decide +kernel
set_option maxRecDepth 20000 in
theorem ggX0_showColour_X2_clear : GoodIn wsX0_showColour wsX2_clear := goodIn_r _ [5, 6, 27, 28, 29, 30] (by decide +kernel) (by decide +kernel)
set_option maxRecDepth 20000 in
theorem gX0_showColour_X2_clear_n54 : GoodIn wsX0_showColour (wsX2_clear) := ggX0_showColour_X2_clear
set_option maxRecDepth 20000 in
theorem ggX0_showColour_X0_fact : GoodIn wsX0_showColour wsX0_fact := goodIn_r _ [11, 12, 13, 14, 15, 22, 23, 24, 25, 26] (by decide +kernel) (by decide +kernel)
set_option maxRecDepth 20000 in
theorem gX0_showColour_X0_fact : GoodIn wsX0_showColour (wsV RX0 59 RX0 yX0_fact wsX0_fact) := goodIn_app (goodIn_of _ (by decide +kernel)) ggX0_showColour_X0_fact
set_option maxRecDepth 20000 in
theorem ggX0_showColour_X2_add : GoodIn wsX0_showColour wsX2_add := goodIn_r _ [18, 6, 19, 20, 21, 13, 14, 15, 27, 28, 29, 30] (by decide +kernel) (by decide +kernel)
set_option maxRecDepth 20000 in
theorem gX0_showColour_X2_add_n63 : GoodIn wsX0_showColour (wsX2_add) := ggX0_showColour_X2_add
theorem dX0_showColour_0 : decode cX0_showColour 0 = .ok (.aload_n 3, 1) := by decide +kernel
theorem dX0_showColour_1 : decode cX0_showColour 1 = .ok (.invokevirtual 54, 3) := by decide +kernel
theorem dX0_showColour_4 : decode cX0_showColour 4 = .ok (.iconst 0, 1) := by decide +kernel
theorem dX0_showColour_5 : decode cX0_showColour 5 = .ok (.istore 4, 2) := by decide +kernel
theorem dX0_showColour_7 : decode cX0_showColour 7 = .ok (.iload 4, 2) := by decide +kernel
theorem dX0_showColour_9 : decode cX0_showColour 9 = .ok (.aload_n 0, 1) := by decide +kernel
theorem dX0_showColour_10 : decode cX0_showColour 10 = .ok (.getfield 15, 3) := by decide +kernel
theorem dX0_showColour_13 : decode cX0_showColour 13 = .ok (.if_icmp .ge 54, 3) := by decide +kernel
theorem dX0_showColour_16 : decode cX0_showColour 16 = .ok (.aload_n 0, 1) := by decide +kernel
theorem dX0_showColour_17 : decode cX0_showColour 17 = .ok (.iload 4, 2) := by decide +kernel
theorem dX0_showColour_19 : decode cX0_showColour 19 = .ok (.bipush 7, 2) := by decide +kernel
theorem dX0_showColour_21 : decode cX0_showColour 21 = .ok (.invokevirtual 59, 3) := by decide +kernel
theorem dX0_showColour_24 : decode cX0_showColour 24 = .ok (.iload_n 2, 1) := by decide +kernel
theorem dX0_showColour_25 : decode cX0_showColour 25 = .ok (.if_icmp .ne 36, 3) := by decide +kernel
theorem dX0_showColour_28 : decode cX0_showColour 28 = .ok (.aload_n 0, 1) := by decide +kernel
theorem dX0_showColour_29 : decode cX0_showColour 29 = .ok (.iload 4, 2) := by decide +kernel
theorem dX0_showColour_31 : decode cX0_showColour 31 = .ok (.iconst 0, 1) := by decide +kernel
theorem dX0_showColour_32 : decode cX0_showColour 32 = .ok (.invokevirtual 59, 3) := by decide +kernel
theorem dX0_showColour_35 : decode cX0_showColour 35 = .ok (.iload_n 1, 1) := by decide +kernel
theorem dX0_showColour_36 : decode cX0_showColour 36 = .ok (.if_icmp .ne 25, 3) := by decide +kernel
theorem dX0_showColour_39 : decode cX0_showColour 39 = .ok (.aload_n 3, 1) := by decide +kernel
theorem dX0_showColour_40 : decode cX0_showColour 40 = .ok (.iload 4, 2) := by decide +kernel
theorem dX0_showColour_42 : decode cX0_showColour 42 = .ok (.aload_n 0, 1) := by decide +kernel
theorem dX0_showColour_43 : decode cX0_showColour 43 = .ok (.iload 4, 2) := by decide +kernel
theorem dX0_showColour_45 : decode cX0_showColour 45 = .ok (.bipush 8, 2) := by decide +kernel
theorem dX0_showColour_47 : decode cX0_showColour 47 = .ok (.invokevirtual 59, 3) := by decide +kernel
theorem dX0_showColour_50 : decode cX0_showColour 50 = .ok (.aload_n 0, 1) := by decide +kernel
theorem dX0_showColour_51 : decode cX0_showColour 51 = .ok (.iload 4, 2) := by decide +kernel
theorem dX0_showColour_53 : decode cX0_showColour 53 = .ok (.bipush 9, 2) := by decide +kernel
theorem dX0_showColour_55 : decode cX0_showColour 55 = .ok (.invokevirtual 59, 3) := by decide +kernel
theorem dX0_showColour_58 : decode cX0_showColour 58 = .ok (.invokevirtual 63, 3) := by decide +kernel
theorem dX0_showColour_61 : decode cX0_showColour 61 = .ok (.iinc 4 1, 3) := by decide +kernel
theorem dX0_showColour_64 : decode cX0_showColour 64 = .ok (.goto (-57), 3) := by decide +kernel
theorem dX0_showColour_67 : decode cX0_showColour 67 = .ok (.return_, 1) := by decide +kernel
set_option maxRecDepth 20000 in
theorem ggX0_showLine_X2_clear : GoodIn wsX0_showLine wsX2_clear := goodIn_r _ [5, 6, 27, 28, 29, 30] (by decide +kernel) (by decide +kernel)
set_option maxRecDepth 20000 in
theorem gX0_showLine_X2_clear_n54 : GoodIn wsX0_showLine (wsX2_clear) := ggX0_showLine_X2_clear
set_option maxRecDepth 20000 in
theorem ggX0_showLine_X0_fact : GoodIn wsX0_showLine wsX0_fact := goodIn_r _ [11, 12, 13, 14, 15, 22, 23, 24, 25, 26] (by decide +kernel) (by decide +kernel)
set_option maxRecDepth 20000 in
theorem gX0_showLine_X0_fact : GoodIn wsX0_showLine (wsV RX0 59 RX0 yX0_fact wsX0_fact) := goodIn_app (goodIn_of _ (by decide +kernel)) ggX0_showLine_X0_fact
set_option maxRecDepth 20000 in
theorem ggX0_showLine_X2_add : GoodIn wsX0_showLine wsX2_add := goodIn_r _ [18, 6, 19, 20, 21, 13, 14, 15, 27, 28, 29, 30] (by decide +kernel) (by decide +kernel)
set_option maxRecDepth 20000 in
theorem gX0_showLine_X2_add_n63 : GoodIn wsX0_showLine (wsX2_add) := ggX0_showLine_X2_add
theorem dX0_showLine_0 : decode cX0_showLine 0 = .ok (.aload_n 2, 1) := by decide +kernel
theorem dX0_showLine_1 : decode cX0_showLine 1 = .ok (.invokevirtual 54, 3) := by decide +kernel
theorem dX0_showLine_4 : decode cX0_showLine 4 = .ok (.iconst 0, 1) := by decide +kernel
theorem dX0_showLine_5 : decode cX0_showLine 5 = .ok (.istore_n 3, 1) := by decide +kernel
theorem dX0_showLine_6 : decode cX0_showLine 6 = .ok (.iload_n 3, 1) := by decide +kernel
theorem dX0_showLine_7 : decode cX0_showLine 7 = .ok (.aload_n 0, 1) := by decide +kernel
theorem dX0_showLine_8 : decode cX0_showLine 8 = .ok (.getfield 15, 3) := by decide +kernel
theorem dX0_showLine_11 : decode cX0_showLine 11 = .ok (.if_icmp .ge 37, 3) := by decide +kernel
theorem dX0_showLine_14 : decode cX0_showLine 14 = .ok (.aload_n 0, 1) := by decide +kernel
theorem dX0_showLine_15 : decode cX0_showLine 15 = .ok (.iload_n 3, 1) := by decide +kernel
theorem dX0_showLine_16 : decode cX0_showLine 16 = .ok (.bipush 10, 2) := by decide +kernel
theorem dX0_showLine_18 : decode cX0_showLine 18 = .ok (.invokevirtual 59, 3) := by decide +kernel
theorem dX0_showLine_21 : decode cX0_showLine 21 = .ok (.iload_n 1, 1) := by decide +kernel
theorem dX0_showLine_22 : decode cX0_showLine 22 = .ok (.if_icmp .ne 20, 3) := by decide +kernel
theorem dX0_showLine_25 : decode cX0_showLine 25 = .ok (.aload_n 2, 1) := by decide +kernel
theorem dX0_showLine_26 : decode cX0_showLine 26 = .ok (.iload_n 3, 1) := by decide +kernel
theorem dX0_showLine_27 : decode cX0_showLine 27 = .ok (.aload_n 0, 1) := by decide +kernel
theorem dX0_showLine_28 : decode cX0_showLine 28 = .ok (.iload_n 3, 1) := by decide +kernel
theorem dX0_showLine_29 : decode cX0_showLine 29 = .ok (.iconst 5, 1) := by decide +kernel
theorem dX0_showLine_30 : decode cX0_showLine 30 = .ok (.invokevirtual 59, 3) := by decide +kernel
theorem dX0_showLine_33 : decode cX0_showLine 33 = .ok (.aload_n 0, 1) := by decide +kernel
theorem dX0_showLine_34 : decode cX0_showLine 34 = .ok (.iload_n 3, 1) := by decide +kernel
theorem dX0_showLine_35 : decode cX0_showLine 35 = .ok (.iconst 4, 1) := by decide +kernel
theorem dX0_showLine_36 : decode cX0_showLine 36 = .ok (.invokevirtual 59, 3) := by decide +kernel
theorem dX0_showLine_39 : decode cX0_showLine 39 = .ok (.invokevirtual 63, 3) := by decide +kernel
theorem dX0_showLine_42 : decode cX0_showLine 42 = .ok (.iinc 3 1, 3) := by decide +kernel
theorem dX0_showLine_45 : decode cX0_showLine 45 = .ok (.goto (-39), 3) := by decide +kernel
theorem dX0_showLine_48 : decode cX0_showLine 48 = .ok (.return_, 1) := by decide +kernel
set_option maxRecDepth 20000 in
theorem ggX0_isTallied_X0_fact : GoodIn wsX0_isTallied wsX0_fact := goodIn_r _ [5, 6, 7, 8, 9, 10, 11, 12, 13, 14] (by decide +kernel) (by decide +kernel)
set_option maxRecDepth 20000 in
theorem gX0_isTallied_X0_fact : GoodIn wsX0_isTallied (wsV RX0 59 RX0 yX0_fact wsX0_fact) := goodIn_app (goodIn_of _ (by decide +kernel)) ggX0_isTallied_X0_fact
theorem dX0_isTallied_0 : decode cX0_isTallied 0 = .ok (.aload_n 0, 1) := by decide +kernel
theorem dX0_isTallied_1 : decode cX0_isTallied 1 = .ok (.iload_n 1, 1) := by decide +kernel
theorem dX0_isTallied_2 : decode cX0_isTallied 2 = .ok (.iconst 2, 1) := by decide +kernel
theorem dX0_isTallied_3 : decode cX0_isTallied 3 = .ok (.invokevirtual 59, 3) := by decide +kernel
theorem dX0_isTallied_6 : decode cX0_isTallied 6 = .ok (.iload_n 2, 1) := by decide +kernel
theorem dX0_isTallied_7 : decode cX0_isTallied 7 = .ok (.if_icmp .ne 18, 3) := by decide +kernel
theorem dX0_isTallied_10 : decode cX0_isTallied 10 = .ok (.aload_n 0, 1) := by decide +kernel
theorem dX0_isTallied_11 : decode cX0_isTallied 11 = .ok (.iload_n 1, 1) := by decide +kernel
theorem dX0_isTallied_12 : decode cX0_isTallied 12 = .ok (.bipush 6, 2) := by decide +kernel
theorem dX0_isTallied_14 : decode cX0_isTallied 14 = .ok (.invokevirtual 59, 3) := by decide +kernel
theorem dX0_isTallied_17 : decode cX0_isTallied 17 = .ok (.iconst 4, 1) := by decide +kernel
theorem dX0_isTallied_18 : decode cX0_isTallied 18 = .ok (.if_icmp .eq 7, 3) := by decide +kernel
theorem dX0_isTallied_21 : decode cX0_isTallied 21 = .ok (.iconst 1, 1) := by decide +kernel
theorem dX0_isTallied_22 : decode cX0_isTallied 22 = .ok (.goto 4, 3) := by decide +kernel
theorem dX0_isTallied_25 : decode cX0_isTallied 25 = .ok (.iconst 0, 1) := by decide +kernel
theorem dX0_isTallied_26 : decode cX0_isTallied 26 = .ok (.ireturn, 1) := by decide +kernel
set_option maxRecDepth 20000 in
theorem ggX0_burstsOfClass_X0_isTallied : GoodIn wsX0_burstsOfClass wsX0_isTallied := goodIn_r _ [6, 7, 8, 9, 5, 10, 11, 12, 13, 14, 15, 16, 17, 18, 19] (by decide +kernel) (by decide +kernel)
set_option maxRecDepth 20000 in
theorem gX0_burstsOfClass_X0_isTallied : GoodIn wsX0_burstsOfClass (wsV RX0 66 RX0 yX0_isTallied wsX0_isTallied) := goodIn_app (goodIn_of _ (by decide +kernel)) ggX0_burstsOfClass_X0_isTallied
theorem dX0_burstsOfClass_0 : decode cX0_burstsOfClass 0 = .ok (.iconst 0, 1) := by decide +kernel
theorem dX0_burstsOfClass_1 : decode cX0_burstsOfClass 1 = .ok (.istore_n 2, 1) := by decide +kernel
theorem dX0_burstsOfClass_2 : decode cX0_burstsOfClass 2 = .ok (.iconst 0, 1) := by decide +kernel
theorem dX0_burstsOfClass_3 : decode cX0_burstsOfClass 3 = .ok (.istore_n 3, 1) := by decide +kernel
theorem dX0_burstsOfClass_4 : decode cX0_burstsOfClass 4 = .ok (.iload_n 3, 1) := by decide +kernel
theorem dX0_burstsOfClass_5 : decode cX0_burstsOfClass 5 = .ok (.aload_n 0, 1) := by decide +kernel
theorem dX0_burstsOfClass_6 : decode cX0_burstsOfClass 6 = .ok (.getfield 15, 3) := by decide +kernel
theorem dX0_burstsOfClass_9 : decode cX0_burstsOfClass 9 = .ok (.if_icmp .ge 21, 3) := by decide +kernel
theorem dX0_burstsOfClass_12 : decode cX0_burstsOfClass 12 = .ok (.aload_n 0, 1) := by decide +kernel
theorem dX0_burstsOfClass_13 : decode cX0_burstsOfClass 13 = .ok (.iload_n 3, 1) := by decide +kernel
theorem dX0_burstsOfClass_14 : decode cX0_burstsOfClass 14 = .ok (.iload_n 1, 1) := by decide +kernel
theorem dX0_burstsOfClass_15 : decode cX0_burstsOfClass 15 = .ok (.invokevirtual 66, 3) := by decide +kernel
theorem dX0_burstsOfClass_18 : decode cX0_burstsOfClass 18 = .ok (.ifCond .eq 6, 3) := by decide +kernel
theorem dX0_burstsOfClass_21 : decode cX0_burstsOfClass 21 = .ok (.iinc 2 1, 3) := by decide +kernel
theorem dX0_burstsOfClass_24 : decode cX0_burstsOfClass 24 = .ok (.iinc 3 1, 3) := by decide +kernel
theorem dX0_burstsOfClass_27 : decode cX0_burstsOfClass 27 = .ok (.goto (-23), 3) := by decide +kernel
theorem dX0_burstsOfClass_30 : decode cX0_burstsOfClass 30 = .ok (.iload_n 2, 1) := by decide +kernel
theorem dX0_burstsOfClass_31 : decode cX0_burstsOfClass 31 = .ok (.ireturn, 1) := by decide +kernel
set_option maxRecDepth 20000 in
theorem ggX0_sumOfClass_X0_isTallied : GoodIn wsX0_sumOfClass wsX0_isTallied := goodIn_r _ [6, 7, 8, 9, 5, 10, 11, 12, 13, 14, 15, 16, 17, 18, 19] (by decide +kernel) (by decide +kernel)
set_option maxRecDepth 20000 in
theorem gX0_sumOfClass_X0_isTallied : GoodIn wsX0_sumOfClass (wsV RX0 66 RX0 yX0_isTallied wsX0_isTallied) := goodIn_app (goodIn_of _ (by decide +kernel)) ggX0_sumOfClass_X0_isTallied
set_option maxRecDepth 20000 in
theorem ggX0_sumOfClass_X0_fact : GoodIn wsX0_sumOfClass wsX0_fact := goodIn_r _ [10, 11, 12, 13, 14, 15, 16, 17, 18, 19] (by decide +kernel) (by decide +kernel)
set_option maxRecDepth 20000 in
theorem gX0_sumOfClass_X0_fact : GoodIn wsX0_sumOfClass (wsV RX0 59 RX0 yX0_fact wsX0_fact) := goodIn_app (goodIn_of _ (by decide +kernel)) ggX0_sumOfClass_X0_fact
theorem dX0_sumOfClass_0 : decode cX0_sumOfClass 0 = .ok (.iconst 0, 1) := by decide +kernel
theorem dX0_sumOfClass_1 : decode cX0_sumOfClass 1 = .ok (.istore_n 3, 1) := by decide +kernel
theorem dX0_sumOfClass_2 : decode cX0_sumOfClass 2 = .ok (.iconst 0, 1) := by decide +kernel
theorem dX0_sumOfClass_3 : decode cX0_sumOfClass 3 = .ok (.istore 4, 2) := by decide +kernel
theorem dX0_sumOfClass_5 : decode cX0_sumOfClass 5 = .ok (.iload 4, 2) := by decide +kernel
theorem dX0_sumOfClass_7 : decode cX0_sumOfClass 7 = .ok (.aload_n 0, 1) := by decide +kernel
theorem dX0_sumOfClass_8 : decode cX0_sumOfClass 8 = .ok (.getfield 15, 3) := by decide +kernel
theorem dX0_sumOfClass_11 : decode cX0_sumOfClass 11 = .ok (.if_icmp .ge 29, 3) := by decide +kernel
theorem dX0_sumOfClass_14 : decode cX0_sumOfClass 14 = .ok (.aload_n 0, 1) := by decide +kernel
theorem dX0_sumOfClass_15 : decode cX0_sumOfClass 15 = .ok (.iload 4, 2) := by decide +kernel
theorem dX0_sumOfClass_17 : decode cX0_sumOfClass 17 = .ok (.iload_n 1, 1) := by decide +kernel
theorem dX0_sumOfClass_18 : decode cX0_sumOfClass 18 = .ok (.invokevirtual 66, 3) := by decide +kernel
theorem dX0_sumOfClass_21 : decode cX0_sumOfClass 21 = .ok (.ifCond .eq 13, 3) := by decide +kernel
theorem dX0_sumOfClass_24 : decode cX0_sumOfClass 24 = .ok (.iload_n 3, 1) := by decide +kernel
theorem dX0_sumOfClass_25 : decode cX0_sumOfClass 25 = .ok (.aload_n 0, 1) := by decide +kernel
theorem dX0_sumOfClass_26 : decode cX0_sumOfClass 26 = .ok (.iload 4, 2) := by decide +kernel
theorem dX0_sumOfClass_28 : decode cX0_sumOfClass 28 = .ok (.iload_n 2, 1) := by decide +kernel
theorem dX0_sumOfClass_29 : decode cX0_sumOfClass 29 = .ok (.invokevirtual 59, 3) := by decide +kernel
theorem dX0_sumOfClass_32 : decode cX0_sumOfClass 32 = .ok (.iadd, 1) := by decide +kernel
theorem dX0_sumOfClass_33 : decode cX0_sumOfClass 33 = .ok (.istore_n 3, 1) := by decide +kernel
theorem dX0_sumOfClass_34 : decode cX0_sumOfClass 34 = .ok (.iinc 4 1, 3) := by decide +kernel
theorem dX0_sumOfClass_37 : decode cX0_sumOfClass 37 = .ok (.goto (-32), 3) := by decide +kernel
theorem dX0_sumOfClass_40 : decode cX0_sumOfClass 40 = .ok (.iload_n 3, 1) := by decide +kernel
theorem dX0_sumOfClass_41 : decode cX0_sumOfClass 41 = .ok (.ireturn, 1) := by decide +kernel
set_option maxRecDepth 20000 in
theorem ggX0_lostOfClass_X0_fact : GoodIn wsX0_lostOfClass wsX0_fact := goodIn_r _ [6, 7, 8, 9, 10, 11, 12, 13, 14, 15] (by decide +kernel) (by decide +kernel)
set_option maxRecDepth 20000 in
theorem gX0_lostOfClass_X0_fact : GoodIn wsX0_lostOfClass (wsV RX0 59 RX0 yX0_fact wsX0_fact) := goodIn_app (goodIn_of _ (by decide +kernel)) ggX0_lostOfClass_X0_fact
theorem dX0_lostOfClass_0 : decode cX0_lostOfClass 0 = .ok (.iconst 0, 1) := by decide +kernel
theorem dX0_lostOfClass_1 : decode cX0_lostOfClass 1 = .ok (.istore_n 2, 1) := by decide +kernel
theorem dX0_lostOfClass_2 : decode cX0_lostOfClass 2 = .ok (.iconst 0, 1) := by decide +kernel
theorem dX0_lostOfClass_3 : decode cX0_lostOfClass 3 = .ok (.istore_n 3, 1) := by decide +kernel
theorem dX0_lostOfClass_4 : decode cX0_lostOfClass 4 = .ok (.iload_n 3, 1) := by decide +kernel
theorem dX0_lostOfClass_5 : decode cX0_lostOfClass 5 = .ok (.aload_n 0, 1) := by decide +kernel
theorem dX0_lostOfClass_6 : decode cX0_lostOfClass 6 = .ok (.getfield 15, 3) := by decide +kernel
theorem dX0_lostOfClass_9 : decode cX0_lostOfClass 9 = .ok (.if_icmp .ge 33, 3) := by decide +kernel
theorem dX0_lostOfClass_12 : decode cX0_lostOfClass 12 = .ok (.aload_n 0, 1) := by decide +kernel
theorem dX0_lostOfClass_13 : decode cX0_lostOfClass 13 = .ok (.iload_n 3, 1) := by decide +kernel
theorem dX0_lostOfClass_14 : decode cX0_lostOfClass 14 = .ok (.iconst 2, 1) := by decide +kernel
theorem dX0_lostOfClass_15 : decode cX0_lostOfClass 15 = .ok (.invokevirtual 59, 3) := by decide +kernel
theorem dX0_lostOfClass_18 : decode cX0_lostOfClass 18 = .ok (.iload_n 1, 1) := by decide +kernel
theorem dX0_lostOfClass_19 : decode cX0_lostOfClass 19 = .ok (.if_icmp .ne 17, 3) := by decide +kernel
theorem dX0_lostOfClass_22 : decode cX0_lostOfClass 22 = .ok (.aload_n 0, 1) := by decide +kernel
theorem dX0_lostOfClass_23 : decode cX0_lostOfClass 23 = .ok (.iload_n 3, 1) := by decide +kernel
theorem dX0_lostOfClass_24 : decode cX0_lostOfClass 24 = .ok (.bipush 6, 2) := by decide +kernel
theorem dX0_lostOfClass_26 : decode cX0_lostOfClass 26 = .ok (.invokevirtual 59, 3) := by decide +kernel
theorem dX0_lostOfClass_29 : decode cX0_lostOfClass 29 = .ok (.iconst 3, 1) := by decide +kernel
theorem dX0_lostOfClass_30 : decode cX0_lostOfClass 30 = .ok (.if_icmp .ne 6, 3) := by decide +kernel
theorem dX0_lostOfClass_33 : decode cX0_lostOfClass 33 = .ok (.iinc 2 1, 3) := by decide +kernel
theorem dX0_lostOfClass_36 : decode cX0_lostOfClass 36 = .ok (.iinc 3 1, 3) := by decide +kernel
theorem dX0_lostOfClass_39 : decode cX0_lostOfClass 39 = .ok (.goto (-35), 3) := by decide +kernel
theorem dX0_lostOfClass_42 : decode cX0_lostOfClass 42 = .ok (.iload_n 2, 1) := by decide +kernel
theorem dX0_lostOfClass_43 : decode cX0_lostOfClass 43 = .ok (.ireturn, 1) := by decide +kernel
set_option maxRecDepth 20000 in
theorem ggX0_burstsOfFate_X0_burstsWhere : GoodIn wsX0_burstsOfFate wsX0_burstsWhere := goodIn_r _ [5, 6, 7, 8, 9, 4, 10, 11, 12, 13, 14, 15, 16, 17, 18, 19] (by decide +kernel) (by decide +kernel)
set_option maxRecDepth 20000 in
theorem gX0_burstsOfFate_X0_burstsWhere : GoodIn wsX0_burstsOfFate (wsV RX0 69 RX0 yX0_burstsWhere wsX0_burstsWhere) := goodIn_app (goodIn_of _ (by decide +kernel)) ggX0_burstsOfFate_X0_burstsWhere
theorem dX0_burstsOfFate_0 : decode cX0_burstsOfFate 0 = .ok (.aload_n 0, 1) := by decide +kernel
theorem dX0_burstsOfFate_1 : decode cX0_burstsOfFate 1 = .ok (.bipush 6, 2) := by decide +kernel
theorem dX0_burstsOfFate_3 : decode cX0_burstsOfFate 3 = .ok (.iload_n 1, 1) := by decide +kernel
theorem dX0_burstsOfFate_4 : decode cX0_burstsOfFate 4 = .ok (.invokevirtual 69, 3) := by decide +kernel
theorem dX0_burstsOfFate_7 : decode cX0_burstsOfFate 7 = .ok (.ireturn, 1) := by decide +kernel
set_option maxRecDepth 20000 in
theorem ggX0_burstsWith_X0_burstsWhere : GoodIn wsX0_burstsWith wsX0_burstsWhere := goodIn_r _ [6, 1, 7, 8, 9, 5, 10, 11, 12, 13, 14, 15, 16, 17, 18, 19] (by decide +kernel) (by decide +kernel)
set_option maxRecDepth 20000 in
theorem gX0_burstsWith_X0_burstsWhere : GoodIn wsX0_burstsWith (wsV RX0 69 RX0 yX0_burstsWhere wsX0_burstsWhere) := goodIn_app (goodIn_of _ (by decide +kernel)) ggX0_burstsWith_X0_burstsWhere
theorem dX0_burstsWith_0 : decode cX0_burstsWith 0 = .ok (.aload_n 0, 1) := by decide +kernel
theorem dX0_burstsWith_1 : decode cX0_burstsWith 1 = .ok (.getfield 15, 3) := by decide +kernel
theorem dX0_burstsWith_4 : decode cX0_burstsWith 4 = .ok (.aload_n 0, 1) := by decide +kernel
theorem dX0_burstsWith_5 : decode cX0_burstsWith 5 = .ok (.iload_n 1, 1) := by decide +kernel
theorem dX0_burstsWith_6 : decode cX0_burstsWith 6 = .ok (.bipush (-6), 2) := by decide +kernel
theorem dX0_burstsWith_8 : decode cX0_burstsWith 8 = .ok (.invokevirtual 69, 3) := by decide +kernel
theorem dX0_burstsWith_11 : decode cX0_burstsWith 11 = .ok (.isub, 1) := by decide +kernel
theorem dX0_burstsWith_12 : decode cX0_burstsWith 12 = .ok (.ireturn, 1) := by decide +kernel
set_option maxRecDepth 20000 in
theorem ggX0_burstsWhere_X0_fact : GoodIn wsX0_burstsWhere wsX0_fact := goodIn_r _ [6, 7, 8, 9, 10, 11, 12, 13, 14, 15] (by decide +kernel) (by decide +kernel)
set_option maxRecDepth 20000 in
theorem gX0_burstsWhere_X0_fact : GoodIn wsX0_burstsWhere (wsV RX0 59 RX0 yX0_fact wsX0_fact) := goodIn_app (goodIn_of _ (by decide +kernel)) ggX0_burstsWhere_X0_fact
theorem dX0_burstsWhere_0 : decode cX0_burstsWhere 0 = .ok (.iconst 0, 1) := by decide +kernel
theorem dX0_burstsWhere_1 : decode cX0_burstsWhere 1 = .ok (.istore_n 3, 1) := by decide +kernel
theorem dX0_burstsWhere_2 : decode cX0_burstsWhere 2 = .ok (.iconst 0, 1) := by decide +kernel
theorem dX0_burstsWhere_3 : decode cX0_burstsWhere 3 = .ok (.istore 4, 2) := by decide +kernel
theorem dX0_burstsWhere_5 : decode cX0_burstsWhere 5 = .ok (.iload 4, 2) := by decide +kernel
theorem dX0_burstsWhere_7 : decode cX0_burstsWhere 7 = .ok (.aload_n 0, 1) := by decide +kernel
theorem dX0_burstsWhere_8 : decode cX0_burstsWhere 8 = .ok (.getfield 15, 3) := by decide +kernel
theorem dX0_burstsWhere_11 : decode cX0_burstsWhere 11 = .ok (.if_icmp .ge 23, 3) := by decide +kernel
theorem dX0_burstsWhere_14 : decode cX0_burstsWhere 14 = .ok (.aload_n 0, 1) := by decide +kernel
theorem dX0_burstsWhere_15 : decode cX0_burstsWhere 15 = .ok (.iload 4, 2) := by decide +kernel
theorem dX0_burstsWhere_17 : decode cX0_burstsWhere 17 = .ok (.iload_n 1, 1) := by decide +kernel
theorem dX0_burstsWhere_18 : decode cX0_burstsWhere 18 = .ok (.invokevirtual 59, 3) := by decide +kernel
theorem dX0_burstsWhere_21 : decode cX0_burstsWhere 21 = .ok (.iload_n 2, 1) := by decide +kernel
theorem dX0_burstsWhere_22 : decode cX0_burstsWhere 22 = .ok (.if_icmp .ne 6, 3) := by decide +kernel
theorem dX0_burstsWhere_25 : decode cX0_burstsWhere 25 = .ok (.iinc 3 1, 3) := by decide +kernel
theorem dX0_burstsWhere_28 : decode cX0_burstsWhere 28 = .ok (.iinc 4 1, 3) := by decide +kernel
theorem dX0_burstsWhere_31 : decode cX0_burstsWhere 31 = .ok (.goto (-26), 3) := by decide +kernel
theorem dX0_burstsWhere_34 : decode cX0_burstsWhere 34 = .ok (.iload_n 3, 1) := by decide +kernel
theorem dX0_burstsWhere_35 : decode cX0_burstsWhere 35 = .ok (.ireturn, 1) := by decide +kernel
theorem dX1_init_0 : decode cX1_init 0 = .ok (.aload_n 0, 1) := by decide +kernel
theorem dX1_init_1 : decode cX1_init 1 = .ok (.invokespecial 3, 3) := by decide +kernel
theorem dX1_init_4 : decode cX1_init 4 = .ok (.aload_n 0, 1) := by decide +kernel
theorem dX1_init_5 : decode cX1_init 5 = .ok (.iconst 0, 1) := by decide +kernel
theorem dX1_init_6 : decode cX1_init 6 = .ok (.putfield 9, 3) := by decide +kernel
theorem dX1_init_9 : decode cX1_init 9 = .ok (.aload_n 0, 1) := by decide +kernel
theorem dX1_init_10 : decode cX1_init 10 = .ok (.iconst 0, 1) := by decide +kernel
theorem dX1_init_11 : decode cX1_init 11 = .ok (.putfield 15, 3) := by decide +kernel
theorem dX1_init_14 : decode cX1_init 14 = .ok (.aload_n 0, 1) := by decide +kernel
theorem dX1_init_15 : decode cX1_init 15 = .ok (.iconst 0, 1) := by decide +kernel
theorem dX1_init_16 : decode cX1_init 16 = .ok (.putfield 18, 3) := by decide +kernel
theorem dX1_init_19 : decode cX1_init 19 = .ok (.aload_n 0, 1) := by decide +kernel
theorem dX1_init_20 : decode cX1_init 20 = .ok (.iconst 0, 1) := by decide +kernel
theorem dX1_init_21 : decode cX1_init 21 = .ok (.putfield 21, 3) := by decide +kernel
theorem dX1_init_24 : decode cX1_init 24 = .ok (.aload_n 0, 1) := by decide +kernel
theorem dX1_init_25 : decode cX1_init 25 = .ok (.iconst 3, 1) := by decide +kernel
theorem dX1_init_26 : decode cX1_init 26 = .ok (.putfield 24, 3) := by decide +kernel
theorem dX1_init_29 : decode cX1_init 29 = .ok (.aload_n 0, 1) := by decide +kernel
theorem dX1_init_30 : decode cX1_init 30 = .ok (.bipush (-6), 2) := by decide +kernel
theorem dX1_init_32 : decode cX1_init 32 = .ok (.putfield 27, 3) := by decide +kernel
theorem dX1_init_35 : decode cX1_init 35 = .ok (.aload_n 0, 1) := by decide +kernel
theorem dX1_init_36 : decode cX1_init 36 = .ok (.bipush (-6), 2) := by decide +kernel
theorem dX1_init_38 : decode cX1_init 38 = .ok (.putfield 30, 3) := by decide +kernel
theorem dX1_init_41 : decode cX1_init 41 = .ok (.aload_n 0, 1) := by decide +kernel
theorem dX1_init_42 : decode cX1_init 42 = .ok (.iconst 0, 1) := by decide +kernel
theorem dX1_init_43 : decode cX1_init 43 = .ok (.putfield 33, 3) := by decide +kernel
theorem dX1_init_46 : decode cX1_init 46 = .ok (.aload_n 0, 1) := by decide +kernel
theorem dX1_init_47 : decode cX1_init 47 = .ok (.bipush (-6), 2) := by decide +kernel
theorem dX1_init_49 : decode cX1_init 49 = .ok (.putfield 36, 3) := by decide +kernel
theorem dX1_init_52 : decode cX1_init 52 = .ok (.aload_n 0, 1) := by decide +kernel
theorem dX1_init_53 : decode cX1_init 53 = .ok (.aload_n 1, 1) := by decide +kernel
theorem dX1_init_54 : decode cX1_init 54 = .ok (.putfield 39, 3) := by decide +kernel
theorem dX1_init_57 : decode cX1_init 57 = .ok (.aload_n 0, 1) := by decide +kernel
theorem dX1_init_58 : decode cX1_init 58 = .ok (.aload_n 2, 1) := by decide +kernel
theorem dX1_init_59 : decode cX1_init 59 = .ok (.putfield 43, 3) := by decide +kernel
theorem dX1_init_62 : decode cX1_init 62 = .ok (.return_, 1) := by decide +kernel
set_option maxRecDepth 20000 in
theorem ggX1_place_X1_decide : GoodIn wsX1_place wsX1_decide := goodIn_r _ [11, 5, 12, 13, 14, 15, 107, 108, 109, 110, 111, 112, 113, 114, 115, 116, 117] (by decide +kernel) (by decide +kernel)
set_option maxRecDepth 20000 in
theorem gX1_place_X1_decide : GoodIn wsX1_place (wsV RX1 47 RX1 yX1_decide wsX1_decide) := goodIn_app (goodIn_of _ (by decide +kernel)) ggX1_place_X1_decide
set_option maxRecDepth 20000 in
theorem ggX1_place_X1_send : GoodIn wsX1_place wsX1_send := goodIn_r _ [19, 3, 4, 20, 21, 22, 10, 23, 6, 1, 24, 25, 26, 27, 28, 2, 29, 30, 31, 32, 33, 34, 35, 36, 37, 38, 39, 40, 41, 42, 43, 44, 45, 46, 47, 48, 49, 50, 51, 52, 53, 54, 55, 56, 57, 58, 59, 60, 61, 62, 63, 64, 65, 66, 67, 68, 69, 70, 71, 72, 73, 74, 75, 76, 77, 78, 79, 80, 81, 82, 83, 84, 7, 8, 9, 11, 5, 12, 13, 14, 15, 107, 108, 109, 110, 111, 112, 113, 114, 115, 116, 117, 118, 119, 120, 121, 122, 123, 124, 125, 126] (by decide +kernel) (by decide +kernel)
set_option maxRecDepth 20000 in
theorem gX1_place_X1_send : GoodIn wsX1_place (wsV RX1 51 RX1 yX1_send wsX1_send) := goodIn_app (goodIn_of _ (by decide +kernel)) ggX1_place_X1_send
set_option maxRecDepth 20000 in
theorem ggX1_place_X1_delay : GoodIn wsX1_place wsX1_delay := goodIn_r _ [88, 6, 3, 4, 89, 34, 90, 91, 92, 38, 39, 40, 93, 94, 95, 10, 96, 24, 97, 98, 99, 44, 45, 46, 47, 48, 49, 50, 51, 52, 53, 54, 55, 56, 57, 58, 59, 60, 65, 66, 67, 68, 69, 70, 71, 72, 73, 31, 74, 75, 76, 77, 20, 21, 22, 23, 1, 25, 26, 27, 28, 2, 29, 30, 32, 33, 35, 36, 37, 41, 42, 43, 61, 62, 63, 64, 78, 79, 80, 81, 82, 83, 84, 7, 8, 9, 11, 5, 12, 13, 14, 15, 107, 108, 109, 110, 111, 112, 113, 114, 115, 116, 117, 118, 119, 120, 121, 122, 123, 124, 125, 126] (by decide +kernel) (by decide +kernel)
set_option maxRecDepth 20000 in
theorem gX1_place_X1_delay : GoodIn wsX1_place (wsV RX1 54 RX1 yX1_delay wsX1_delay) := goodIn_app (goodIn_of _ (by decide +kernel)) ggX1_place_X1_delay
set_option maxRecDepth 20000 in
theorem ggX1_place_X0_ruleNow : GoodIn wsX1_place wsX0_ruleNow := goodIn_r _ [36, 37, 38, 39, 40, 118, 119, 120, 121, 122] (by decide +kernel) (by decide +kernel)
set_option maxRecDepth 20000 in
theorem gX1_place_X0_ruleNow_n57 : GoodIn wsX1_place (wsX0_ruleNow) := ggX1_place_X0_ruleNow
set_option maxRecDepth 20000 in
theorem ggX1_place_X1_cut : GoodIn wsX1_place wsX1_cut := goodIn_r _ [103, 3, 4, 6, 1, 24, 25, 26, 27, 10, 28, 2, 29, 30, 31, 32, 33, 34, 35, 36, 37, 38, 39, 40, 41, 42, 43, 44, 45, 46, 47, 48, 49, 50, 51, 52, 53, 54, 55, 56, 57, 58, 59, 60, 61, 62, 63, 64, 104, 105, 106, 68, 69, 70, 71, 72, 73, 74, 75, 76, 77, 81, 82, 83, 84, 7, 8, 9, 11, 5, 12, 13, 14, 15, 107, 108, 109, 110, 111, 112, 113, 114, 115, 116, 117, 118, 119, 120, 121, 122, 123, 124, 125, 126] (by decide +kernel) (by decide +kernel)
set_option maxRecDepth 20000 in
theorem gX1_place_X1_cut : GoodIn wsX1_place (wsV RX1 63 RX1 yX1_cut wsX1_cut) := goodIn_app (goodIn_of _ (by decide +kernel)) ggX1_place_X1_cut
theorem dX1_place_0 : decode cX1_place 0 = .ok (.aload_n 0, 1) := by decide +kernel
theorem dX1_place_1 : decode cX1_place 1 = .ok (.iload_n 1, 1) := by decide +kernel
theorem dX1_place_2 : decode cX1_place 2 = .ok (.putfield 9, 3) := by decide +kernel
theorem dX1_place_5 : decode cX1_place 5 = .ok (.aload_n 0, 1) := by decide +kernel
theorem dX1_place_6 : decode cX1_place 6 = .ok (.iload_n 2, 1) := by decide +kernel
theorem dX1_place_7 : decode cX1_place 7 = .ok (.putfield 15, 3) := by decide +kernel
theorem dX1_place_10 : decode cX1_place 10 = .ok (.aload_n 0, 1) := by decide +kernel
theorem dX1_place_11 : decode cX1_place 11 = .ok (.iload_n 3, 1) := by decide +kernel
theorem dX1_place_12 : decode cX1_place 12 = .ok (.putfield 18, 3) := by decide +kernel
theorem dX1_place_15 : decode cX1_place 15 = .ok (.aload_n 0, 1) := by decide +kernel
theorem dX1_place_16 : decode cX1_place 16 = .ok (.iload 4, 2) := by decide +kernel
theorem dX1_place_18 : decode cX1_place 18 = .ok (.putfield 21, 3) := by decide +kernel
theorem dX1_place_21 : decode cX1_place 21 = .ok (.aload_n 0, 1) := by decide +kernel
theorem dX1_place_22 : decode cX1_place 22 = .ok (.iconst 3, 1) := by decide +kernel
theorem dX1_place_23 : decode cX1_place 23 = .ok (.bipush (-6), 2) := by decide +kernel
theorem dX1_place_25 : decode cX1_place 25 = .ok (.bipush (-6), 2) := by decide +kernel
theorem dX1_place_27 : decode cX1_place 27 = .ok (.iconst 0, 1) := by decide +kernel
theorem dX1_place_28 : decode cX1_place 28 = .ok (.bipush (-6), 2) := by decide +kernel
theorem dX1_place_30 : decode cX1_place 30 = .ok (.invokevirtual 47, 3) := by decide +kernel
theorem dX1_place_33 : decode cX1_place 33 = .ok (.aload_n 0, 1) := by decide +kernel
theorem dX1_place_34 : decode cX1_place 34 = .ok (.invokevirtual 51, 3) := by decide +kernel
theorem dX1_place_37 : decode cX1_place 37 = .ok (.aload_n 0, 1) := by decide +kernel
theorem dX1_place_38 : decode cX1_place 38 = .ok (.getfield 24, 3) := by decide +kernel
theorem dX1_place_41 : decode cX1_place 41 = .ok (.iconst 3, 1) := by decide +kernel
theorem dX1_place_42 : decode cX1_place 42 = .ok (.if_icmp .ne 7, 3) := by decide +kernel
theorem dX1_place_45 : decode cX1_place 45 = .ok (.aload_n 0, 1) := by decide +kernel
theorem dX1_place_46 : decode cX1_place 46 = .ok (.invokevirtual 54, 3) := by decide +kernel
theorem dX1_place_49 : decode cX1_place 49 = .ok (.aload_n 0, 1) := by decide +kernel
theorem dX1_place_50 : decode cX1_place 50 = .ok (.getfield 24, 3) := by decide +kernel
theorem dX1_place_53 : decode cX1_place 53 = .ok (.iconst 3, 1) := by decide +kernel
theorem dX1_place_54 : decode cX1_place 54 = .ok (.if_icmp .ne 19, 3) := by decide +kernel
theorem dX1_place_57 : decode cX1_place 57 = .ok (.aload_n 0, 1) := by decide +kernel
theorem dX1_place_58 : decode cX1_place 58 = .ok (.getfield 39, 3) := by decide +kernel
theorem dX1_place_61 : decode cX1_place 61 = .ok (.iconst 4, 1) := by decide +kernel
theorem dX1_place_62 : decode cX1_place 62 = .ok (.invokevirtual 57, 3) := by decide +kernel
theorem dX1_place_65 : decode cX1_place 65 = .ok (.iconst 1, 1) := by decide +kernel
theorem dX1_place_66 : decode cX1_place 66 = .ok (.if_icmp .ne 7, 3) := by decide +kernel
theorem dX1_place_69 : decode cX1_place 69 = .ok (.aload_n 0, 1) := by decide +kernel
theorem dX1_place_70 : decode cX1_place 70 = .ok (.invokevirtual 63, 3) := by decide +kernel
theorem dX1_place_73 : decode cX1_place 73 = .ok (.return_, 1) := by decide +kernel
set_option maxRecDepth 20000 in
theorem ggX1_writeTo_X0_setFact : GoodIn wsX1_writeTo wsX0_setFact := goodIn_r _ [14, 15, 16, 17, 18, 30, 31, 32, 33, 34] (by decide +kernel) (by decide +kernel)
set_option maxRecDepth 20000 in
theorem gX1_writeTo_X0_setFact_n66 : GoodIn wsX1_writeTo (wsX0_setFact) := ggX1_writeTo_X0_setFact
theorem dX1_writeTo_0 : decode cX1_writeTo 0 = .ok (.aload_n 0, 1) := by decide +kernel
theorem dX1_writeTo_1 : decode cX1_writeTo 1 = .ok (.getfield 39, 3) := by decide +kernel
theorem dX1_writeTo_4 : decode cX1_writeTo 4 = .ok (.iload_n 1, 1) := by decide +kernel
theorem dX1_writeTo_5 : decode cX1_writeTo 5 = .ok (.iconst 0, 1) := by decide +kernel
theorem dX1_writeTo_6 : decode cX1_writeTo 6 = .ok (.aload_n 0, 1) := by decide +kernel
theorem dX1_writeTo_7 : decode cX1_writeTo 7 = .ok (.getfield 9, 3) := by decide +kernel
theorem dX1_writeTo_10 : decode cX1_writeTo 10 = .ok (.invokevirtual 66, 3) := by decide +kernel
theorem dX1_writeTo_13 : decode cX1_writeTo 13 = .ok (.aload_n 0, 1) := by decide +kernel
theorem dX1_writeTo_14 : decode cX1_writeTo 14 = .ok (.getfield 39, 3) := by decide +kernel
theorem dX1_writeTo_17 : decode cX1_writeTo 17 = .ok (.iload_n 1, 1) := by decide +kernel
theorem dX1_writeTo_18 : decode cX1_writeTo 18 = .ok (.iconst 1, 1) := by decide +kernel
theorem dX1_writeTo_19 : decode cX1_writeTo 19 = .ok (.aload_n 0, 1) := by decide +kernel
theorem dX1_writeTo_20 : decode cX1_writeTo 20 = .ok (.getfield 15, 3) := by decide +kernel
theorem dX1_writeTo_23 : decode cX1_writeTo 23 = .ok (.invokevirtual 66, 3) := by decide +kernel
theorem dX1_writeTo_26 : decode cX1_writeTo 26 = .ok (.aload_n 0, 1) := by decide +kernel
theorem dX1_writeTo_27 : decode cX1_writeTo 27 = .ok (.getfield 39, 3) := by decide +kernel
theorem dX1_writeTo_30 : decode cX1_writeTo 30 = .ok (.iload_n 1, 1) := by decide +kernel
theorem dX1_writeTo_31 : decode cX1_writeTo 31 = .ok (.iconst 5, 1) := by decide +kernel
theorem dX1_writeTo_32 : decode cX1_writeTo 32 = .ok (.aload_n 0, 1) := by decide +kernel
theorem dX1_writeTo_33 : decode cX1_writeTo 33 = .ok (.getfield 18, 3) := by decide +kernel
theorem dX1_writeTo_36 : decode cX1_writeTo 36 = .ok (.invokevirtual 66, 3) := by decide +kernel
theorem dX1_writeTo_39 : decode cX1_writeTo 39 = .ok (.aload_n 0, 1) := by decide +kernel
theorem dX1_writeTo_40 : decode cX1_writeTo 40 = .ok (.getfield 39, 3) := by decide +kernel
theorem dX1_writeTo_43 : decode cX1_writeTo 43 = .ok (.iload_n 1, 1) := by decide +kernel
theorem dX1_writeTo_44 : decode cX1_writeTo 44 = .ok (.iconst 4, 1) := by decide +kernel
theorem dX1_writeTo_45 : decode cX1_writeTo 45 = .ok (.aload_n 0, 1) := by decide +kernel
theorem dX1_writeTo_46 : decode cX1_writeTo 46 = .ok (.getfield 21, 3) := by decide +kernel
theorem dX1_writeTo_49 : decode cX1_writeTo 49 = .ok (.invokevirtual 66, 3) := by decide +kernel
theorem dX1_writeTo_52 : decode cX1_writeTo 52 = .ok (.aload_n 0, 1) := by decide +kernel
theorem dX1_writeTo_53 : decode cX1_writeTo 53 = .ok (.getfield 39, 3) := by decide +kernel
theorem dX1_writeTo_56 : decode cX1_writeTo 56 = .ok (.iload_n 1, 1) := by decide +kernel
theorem dX1_writeTo_57 : decode cX1_writeTo 57 = .ok (.bipush 6, 2) := by decide +kernel
theorem dX1_writeTo_59 : decode cX1_writeTo 59 = .ok (.aload_n 0, 1) := by decide +kernel
theorem dX1_writeTo_60 : decode cX1_writeTo 60 = .ok (.getfield 24, 3) := by decide +kernel
theorem dX1_writeTo_63 : decode cX1_writeTo 63 = .ok (.invokevirtual 66, 3) := by decide +kernel
theorem dX1_writeTo_66 : decode cX1_writeTo 66 = .ok (.aload_n 0, 1) := by decide +kernel
theorem dX1_writeTo_67 : decode cX1_writeTo 67 = .ok (.getfield 39, 3) := by decide +kernel
theorem dX1_writeTo_70 : decode cX1_writeTo 70 = .ok (.iload_n 1, 1) := by decide +kernel
theorem dX1_writeTo_71 : decode cX1_writeTo 71 = .ok (.bipush 7, 2) := by decide +kernel
theorem dX1_writeTo_73 : decode cX1_writeTo 73 = .ok (.aload_n 0, 1) := by decide +kernel
theorem dX1_writeTo_74 : decode cX1_writeTo 74 = .ok (.getfield 27, 3) := by decide +kernel
theorem dX1_writeTo_77 : decode cX1_writeTo 77 = .ok (.invokevirtual 66, 3) := by decide +kernel
theorem dX1_writeTo_80 : decode cX1_writeTo 80 = .ok (.aload_n 0, 1) := by decide +kernel
theorem dX1_writeTo_81 : decode cX1_writeTo 81 = .ok (.getfield 39, 3) := by decide +kernel
theorem dX1_writeTo_84 : decode cX1_writeTo 84 = .ok (.iload_n 1, 1) := by decide +kernel
theorem dX1_writeTo_85 : decode cX1_writeTo 85 = .ok (.bipush 8, 2) := by decide +kernel
theorem dX1_writeTo_87 : decode cX1_writeTo 87 = .ok (.aload_n 0, 1) := by decide +kernel
theorem dX1_writeTo_88 : decode cX1_writeTo 88 = .ok (.getfield 30, 3) := by decide +kernel
theorem dX1_writeTo_91 : decode cX1_writeTo 91 = .ok (.invokevirtual 66, 3) := by decide +kernel
theorem dX1_writeTo_94 : decode cX1_writeTo 94 = .ok (.aload_n 0, 1) := by decide +kernel
theorem dX1_writeTo_95 : decode cX1_writeTo 95 = .ok (.getfield 39, 3) := by decide +kernel
theorem dX1_writeTo_98 : decode cX1_writeTo 98 = .ok (.iload_n 1, 1) := by decide +kernel
theorem dX1_writeTo_99 : decode cX1_writeTo 99 = .ok (.bipush 9, 2) := by decide +kernel
theorem dX1_writeTo_101 : decode cX1_writeTo 101 = .ok (.aload_n 0, 1) := by decide +kernel
theorem dX1_writeTo_102 : decode cX1_writeTo 102 = .ok (.getfield 33, 3) := by decide +kernel
theorem dX1_writeTo_105 : decode cX1_writeTo 105 = .ok (.invokevirtual 66, 3) := by decide +kernel
theorem dX1_writeTo_108 : decode cX1_writeTo 108 = .ok (.aload_n 0, 1) := by decide +kernel
theorem dX1_writeTo_109 : decode cX1_writeTo 109 = .ok (.getfield 39, 3) := by decide +kernel
theorem dX1_writeTo_112 : decode cX1_writeTo 112 = .ok (.iload_n 1, 1) := by decide +kernel
theorem dX1_writeTo_113 : decode cX1_writeTo 113 = .ok (.bipush 10, 2) := by decide +kernel
theorem dX1_writeTo_115 : decode cX1_writeTo 115 = .ok (.aload_n 0, 1) := by decide +kernel
theorem dX1_writeTo_116 : decode cX1_writeTo 116 = .ok (.getfield 36, 3) := by decide +kernel
theorem dX1_writeTo_119 : decode cX1_writeTo 119 = .ok (.invokevirtual 66, 3) := by decide +kernel
theorem dX1_writeTo_122 : decode cX1_writeTo 122 = .ok (.return_, 1) := by decide +kernel
theorem dX1_decide_0 : decode cX1_decide 0 = .ok (.aload_n 0, 1) := by decide +kernel
theorem dX1_decide_1 : decode cX1_decide 1 = .ok (.iload_n 1, 1) := by decide +kernel
theorem dX1_decide_2 : decode cX1_decide 2 = .ok (.putfield 24, 3) := by decide +kernel
theorem dX1_decide_5 : decode cX1_decide 5 = .ok (.aload_n 0, 1) := by decide +kernel
theorem dX1_decide_6 : decode cX1_decide 6 = .ok (.iload_n 2, 1) := by decide +kernel
theorem dX1_decide_7 : decode cX1_decide 7 = .ok (.putfield 27, 3) := by decide +kernel
theorem dX1_decide_10 : decode cX1_decide 10 = .ok (.aload_n 0, 1) := by decide +kernel
theorem dX1_decide_11 : decode cX1_decide 11 = .ok (.iload_n 3, 1) := by decide +kernel
theorem dX1_decide_12 : decode cX1_decide 12 = .ok (.putfield 30, 3) := by decide +kernel
theorem dX1_decide_15 : decode cX1_decide 15 = .ok (.aload_n 0, 1) := by decide +kernel
theorem dX1_decide_16 : decode cX1_decide 16 = .ok (.iload 4, 2) := by decide +kernel
theorem dX1_decide_18 : decode cX1_decide 18 = .ok (.putfield 33, 3) := by decide +kernel
theorem dX1_decide_21 : decode cX1_decide 21 = .ok (.aload_n 0, 1) := by decide +kernel
theorem dX1_decide_22 : decode cX1_decide 22 = .ok (.iload 5, 2) := by decide +kernel
theorem dX1_decide_24 : decode cX1_decide 24 = .ok (.putfield 36, 3) := by decide +kernel
theorem dX1_decide_27 : decode cX1_decide 27 = .ok (.return_, 1) := by decide +kernel
set_option maxRecDepth 20000 in
theorem ggX1_send_X1_bestColour : GoodIn wsX1_send wsX1_bestColour := goodIn_r _ [7, 8, 9, 10, 2, 11, 12, 13, 6, 14, 15, 16, 17, 18, 19, 20, 21, 22, 23, 24, 25, 26, 27, 28, 29, 30, 31, 32, 33, 34, 35, 36, 37, 38, 39, 40, 41, 42, 43, 44, 45, 46, 47, 48, 49, 50, 51, 52, 53, 54, 55, 56, 57, 58, 59, 60, 61, 62, 63, 64, 65, 66, 67, 68, 69, 70, 71, 81, 82, 83, 84, 85, 86, 87, 88, 89, 90, 91, 92, 93, 94, 95, 96, 97, 98, 99, 100] (by decide +kernel) (by decide +kernel)
set_option maxRecDepth 20000 in
theorem gX1_send_X1_bestColour : GoodIn wsX1_send (wsV RX1 70 RX1 yX1_bestColour wsX1_bestColour) := goodIn_app (goodIn_of _ (by decide +kernel)) ggX1_send_X1_bestColour
set_option maxRecDepth 20000 in
theorem ggX1_send_X1_decide : GoodIn wsX1_send wsX1_decide := goodIn_r _ [75, 76, 77, 78, 79, 80, 81, 82, 83, 84, 85, 86, 87, 88, 89, 90, 91] (by decide +kernel) (by decide +kernel)
set_option maxRecDepth 20000 in
theorem gX1_send_X1_decide : GoodIn wsX1_send (wsV RX1 47 RX1 yX1_decide wsX1_decide) := goodIn_app (goodIn_of _ (by decide +kernel)) ggX1_send_X1_decide
theorem dX1_send_0 : decode cX1_send 0 = .ok (.aload_n 0, 1) := by decide +kernel
theorem dX1_send_1 : decode cX1_send 1 = .ok (.aload_n 0, 1) := by decide +kernel
theorem dX1_send_2 : decode cX1_send 2 = .ok (.getfield 18, 3) := by decide +kernel
theorem dX1_send_5 : decode cX1_send 5 = .ok (.invokevirtual 70, 3) := by decide +kernel
theorem dX1_send_8 : decode cX1_send 8 = .ok (.istore_n 1, 1) := by decide +kernel
theorem dX1_send_9 : decode cX1_send 9 = .ok (.iload_n 1, 1) := by decide +kernel
theorem dX1_send_10 : decode cX1_send 10 = .ok (.bipush (-6), 2) := by decide +kernel
theorem dX1_send_12 : decode cX1_send 12 = .ok (.if_icmp .eq 19, 3) := by decide +kernel
theorem dX1_send_15 : decode cX1_send 15 = .ok (.aload_n 0, 1) := by decide +kernel
theorem dX1_send_16 : decode cX1_send 16 = .ok (.iconst 0, 1) := by decide +kernel
theorem dX1_send_17 : decode cX1_send 17 = .ok (.iload_n 1, 1) := by decide +kernel
theorem dX1_send_18 : decode cX1_send 18 = .ok (.aload_n 0, 1) := by decide +kernel
theorem dX1_send_19 : decode cX1_send 19 = .ok (.getfield 18, 3) := by decide +kernel
theorem dX1_send_22 : decode cX1_send 22 = .ok (.aload_n 0, 1) := by decide +kernel
theorem dX1_send_23 : decode cX1_send 23 = .ok (.getfield 21, 3) := by decide +kernel
theorem dX1_send_26 : decode cX1_send 26 = .ok (.bipush (-6), 2) := by decide +kernel
theorem dX1_send_28 : decode cX1_send 28 = .ok (.invokevirtual 47, 3) := by decide +kernel
theorem dX1_send_31 : decode cX1_send 31 = .ok (.return_, 1) := by decide +kernel
set_option maxRecDepth 20000 in
theorem ggX1_delay_X0_lengthNow : GoodIn wsX1_delay wsX0_lengthNow := goodIn_r _ [7, 8, 9, 10, 11, 103, 104, 105, 106, 107] (by decide +kernel) (by decide +kernel)
set_option maxRecDepth 20000 in
theorem gX1_delay_X0_lengthNow_n73 : GoodIn wsX1_delay (wsX0_lengthNow) := ggX1_delay_X0_lengthNow
set_option maxRecDepth 20000 in
theorem ggX1_delay_X1_isLineFree : GoodIn wsX1_delay wsX1_isLineFree := goodIn_r _ [16, 1, 17, 2, 3, 18, 5, 19, 20, 21, 22, 23, 24, 25, 26, 27, 28, 29, 30, 31, 9, 10, 11, 32, 33, 34, 35, 36, 37, 38, 39, 40, 41, 42, 43, 44, 45, 46, 47, 48, 49, 50, 51, 92, 93, 94, 95, 96, 97, 98, 99, 100, 101, 102, 103, 104, 105, 106, 107, 108, 109, 110, 111] (by decide +kernel) (by decide +kernel)
set_option maxRecDepth 20000 in
theorem gX1_delay_X1_isLineFree : GoodIn wsX1_delay (wsV RX1 76 RX1 yX1_isLineFree wsX1_isLineFree) := goodIn_app (goodIn_of _ (by decide +kernel)) ggX1_delay_X1_isLineFree
set_option maxRecDepth 20000 in
theorem ggX1_delay_X1_bestColour : GoodIn wsX1_delay wsX1_bestColour := goodIn_r _ [55, 1, 56, 17, 3, 57, 58, 59, 15, 60, 61, 62, 63, 47, 64, 65, 5, 66, 67, 68, 9, 10, 11, 69, 70, 71, 21, 22, 23, 24, 25, 26, 27, 28, 29, 30, 31, 32, 33, 34, 35, 36, 37, 72, 73, 74, 75, 38, 39, 40, 41, 42, 43, 44, 45, 46, 48, 49, 50, 51, 76, 77, 78, 79, 80, 81, 82, 92, 93, 94, 95, 96, 97, 98, 99, 100, 101, 102, 103, 104, 105, 106, 107, 108, 109, 110, 111] (by decide +kernel) (by decide +kernel)
set_option maxRecDepth 20000 in
theorem gX1_delay_X1_bestColour : GoodIn wsX1_delay (wsV RX1 70 RX1 yX1_bestColour wsX1_bestColour) := goodIn_app (goodIn_of _ (by decide +kernel)) ggX1_delay_X1_bestColour
set_option maxRecDepth 20000 in
theorem ggX1_delay_X1_decide : GoodIn wsX1_delay wsX1_decide := goodIn_r _ [86, 87, 88, 89, 90, 91, 92, 93, 94, 95, 96, 97, 98, 99, 100, 101, 102] (by decide +kernel) (by decide +kernel)
set_option maxRecDepth 20000 in
theorem gX1_delay_X1_decide : GoodIn wsX1_delay (wsV RX1 47 RX1 yX1_decide wsX1_decide) := goodIn_app (goodIn_of _ (by decide +kernel)) ggX1_delay_X1_decide
theorem dX1_delay_0 : decode cX1_delay 0 = .ok (.bipush (-6), 2) := by decide +kernel
theorem dX1_delay_2 : decode cX1_delay 2 = .ok (.istore_n 1, 1) := by decide +kernel
theorem dX1_delay_3 : decode cX1_delay 3 = .ok (.bipush (-6), 2) := by decide +kernel
theorem dX1_delay_5 : decode cX1_delay 5 = .ok (.istore_n 2, 1) := by decide +kernel
theorem dX1_delay_6 : decode cX1_delay 6 = .ok (.bipush 61, 2) := by decide +kernel
theorem dX1_delay_8 : decode cX1_delay 8 = .ok (.istore_n 3, 1) := by decide +kernel
theorem dX1_delay_9 : decode cX1_delay 9 = .ok (.iconst 0, 1) := by decide +kernel
theorem dX1_delay_10 : decode cX1_delay 10 = .ok (.istore 4, 2) := by decide +kernel
theorem dX1_delay_12 : decode cX1_delay 12 = .ok (.iload 4, 2) := by decide +kernel
theorem dX1_delay_14 : decode cX1_delay 14 = .ok (.iconst 3, 1) := by decide +kernel
theorem dX1_delay_15 : decode cX1_delay 15 = .ok (.if_icmp .ge 69, 3) := by decide +kernel
theorem dX1_delay_18 : decode cX1_delay 18 = .ok (.aload_n 0, 1) := by decide +kernel
theorem dX1_delay_19 : decode cX1_delay 19 = .ok (.getfield 39, 3) := by decide +kernel
theorem dX1_delay_22 : decode cX1_delay 22 = .ok (.iload 4, 2) := by decide +kernel
theorem dX1_delay_24 : decode cX1_delay 24 = .ok (.invokevirtual 73, 3) := by decide +kernel
theorem dX1_delay_27 : decode cX1_delay 27 = .ok (.istore 5, 2) := by decide +kernel
theorem dX1_delay_29 : decode cX1_delay 29 = .ok (.iload 5, 2) := by decide +kernel
theorem dX1_delay_31 : decode cX1_delay 31 = .ok (.ifCond .le 47, 3) := by decide +kernel
theorem dX1_delay_34 : decode cX1_delay 34 = .ok (.iload 5, 2) := by decide +kernel
theorem dX1_delay_36 : decode cX1_delay 36 = .ok (.iload_n 3, 1) := by decide +kernel
theorem dX1_delay_37 : decode cX1_delay 37 = .ok (.if_icmp .ge 41, 3) := by decide +kernel
theorem dX1_delay_40 : decode cX1_delay 40 = .ok (.aload_n 0, 1) := by decide +kernel
theorem dX1_delay_41 : decode cX1_delay 41 = .ok (.iload 4, 2) := by decide +kernel
theorem dX1_delay_43 : decode cX1_delay 43 = .ok (.invokevirtual 76, 3) := by decide +kernel
theorem dX1_delay_46 : decode cX1_delay 46 = .ok (.ifCond .eq 32, 3) := by decide +kernel
theorem dX1_delay_49 : decode cX1_delay 49 = .ok (.aload_n 0, 1) := by decide +kernel
theorem dX1_delay_50 : decode cX1_delay 50 = .ok (.aload_n 0, 1) := by decide +kernel
theorem dX1_delay_51 : decode cX1_delay 51 = .ok (.getfield 18, 3) := by decide +kernel
theorem dX1_delay_54 : decode cX1_delay 54 = .ok (.iload 5, 2) := by decide +kernel
theorem dX1_delay_56 : decode cX1_delay 56 = .ok (.iadd, 1) := by decide +kernel
theorem dX1_delay_57 : decode cX1_delay 57 = .ok (.invokevirtual 70, 3) := by decide +kernel
theorem dX1_delay_60 : decode cX1_delay 60 = .ok (.istore 6, 2) := by decide +kernel
theorem dX1_delay_62 : decode cX1_delay 62 = .ok (.iload 6, 2) := by decide +kernel
theorem dX1_delay_64 : decode cX1_delay 64 = .ok (.bipush (-6), 2) := by decide +kernel
theorem dX1_delay_66 : decode cX1_delay 66 = .ok (.if_icmp .eq 12, 3) := by decide +kernel
theorem dX1_delay_69 : decode cX1_delay 69 = .ok (.iload 4, 2) := by decide +kernel
theorem dX1_delay_71 : decode cX1_delay 71 = .ok (.istore_n 1, 1) := by decide +kernel
theorem dX1_delay_72 : decode cX1_delay 72 = .ok (.iload 6, 2) := by decide +kernel
theorem dX1_delay_74 : decode cX1_delay 74 = .ok (.istore_n 2, 1) := by decide +kernel
theorem dX1_delay_75 : decode cX1_delay 75 = .ok (.iload 5, 2) := by decide +kernel
theorem dX1_delay_77 : decode cX1_delay 77 = .ok (.istore_n 3, 1) := by decide +kernel
theorem dX1_delay_78 : decode cX1_delay 78 = .ok (.iinc 4 1, 3) := by decide +kernel
theorem dX1_delay_81 : decode cX1_delay 81 = .ok (.goto (-69), 3) := by decide +kernel
theorem dX1_delay_84 : decode cX1_delay 84 = .ok (.iload_n 1, 1) := by decide +kernel
theorem dX1_delay_85 : decode cX1_delay 85 = .ok (.bipush (-6), 2) := by decide +kernel
theorem dX1_delay_87 : decode cX1_delay 87 = .ok (.if_icmp .eq 20, 3) := by decide +kernel
theorem dX1_delay_90 : decode cX1_delay 90 = .ok (.aload_n 0, 1) := by decide +kernel
theorem dX1_delay_91 : decode cX1_delay 91 = .ok (.iconst 1, 1) := by decide +kernel
theorem dX1_delay_92 : decode cX1_delay 92 = .ok (.iload_n 2, 1) := by decide +kernel
theorem dX1_delay_93 : decode cX1_delay 93 = .ok (.aload_n 0, 1) := by decide +kernel
theorem dX1_delay_94 : decode cX1_delay 94 = .ok (.getfield 18, 3) := by decide +kernel
theorem dX1_delay_97 : decode cX1_delay 97 = .ok (.iload_n 3, 1) := by decide +kernel
theorem dX1_delay_98 : decode cX1_delay 98 = .ok (.iadd, 1) := by decide +kernel
theorem dX1_delay_99 : decode cX1_delay 99 = .ok (.aload_n 0, 1) := by decide +kernel
theorem dX1_delay_100 : decode cX1_delay 100 = .ok (.getfield 21, 3) := by decide +kernel
theorem dX1_delay_103 : decode cX1_delay 103 = .ok (.iload_n 1, 1) := by decide +kernel
theorem dX1_delay_104 : decode cX1_delay 104 = .ok (.invokevirtual 47, 3) := by decide +kernel
theorem dX1_delay_107 : decode cX1_delay 107 = .ok (.return_, 1) := by decide +kernel
set_option maxRecDepth 20000 in
theorem ggX1_cut_X1_awayFrom : GoodIn wsX1_cut wsX1_awayFrom := goodIn_r _ [10, 11, 12, 13, 14, 15, 74, 75, 76, 77, 78, 79, 80, 81, 82, 83, 84] (by decide +kernel) (by decide +kernel)
set_option maxRecDepth 20000 in
theorem gX1_cut_X1_awayFrom : GoodIn wsX1_cut (wsV RX1 80 RX1 yX1_awayFrom wsX1_awayFrom) := goodIn_app (goodIn_of _ (by decide +kernel)) ggX1_cut_X1_awayFrom
set_option maxRecDepth 20000 in
theorem ggX1_cut_X0_ruleNow : GoodIn wsX1_cut wsX0_ruleNow := goodIn_r _ [19, 20, 21, 22, 23, 85, 86, 87, 88, 89] (by decide +kernel) (by decide +kernel)
set_option maxRecDepth 20000 in
theorem gX1_cut_X0_ruleNow_n57 : GoodIn wsX1_cut (wsX0_ruleNow) := ggX1_cut_X0_ruleNow
set_option maxRecDepth 20000 in
theorem ggX1_cut_X0_showColour : GoodIn wsX1_cut wsX0_showColour := goodIn_r _ [26, 27, 28, 29, 30, 31, 32, 33, 34, 35, 17, 36, 37, 21, 22, 23, 38, 39, 40, 41, 42, 43, 85, 86, 87, 88, 89, 90, 91, 92, 93] (by decide +kernel) (by decide +kernel)
set_option maxRecDepth 20000 in
theorem gX1_cut_X0_showColour_n83 : GoodIn wsX1_cut (wsX0_showColour) := ggX1_cut_X0_showColour
set_option maxRecDepth 20000 in
theorem ggX1_cut_X1_fillsVoids : GoodIn wsX1_cut wsX1_fillsVoids := goodIn_r _ [47, 3, 16, 17, 18, 19, 20, 21, 22, 23, 74, 75, 76, 77, 78, 79, 80, 81, 82, 83, 84, 85, 86, 87, 88, 89] (by decide +kernel) (by decide +kernel)
set_option maxRecDepth 20000 in
theorem gX1_cut_X1_fillsVoids : GoodIn wsX1_cut (wsV RX1 87 RX1 yX1_fillsVoids wsX1_fillsVoids) := goodIn_app (goodIn_of _ (by decide +kernel)) ggX1_cut_X1_fillsVoids
set_option maxRecDepth 20000 in
theorem ggX1_cut_X2_pieceBegin : GoodIn wsX1_cut wsX2_pieceBegin := goodIn_r _ [50, 32, 43, 51, 52, 53, 29, 54, 41, 55, 56, 14, 57, 58, 59, 60, 90, 91, 92, 93] (by decide +kernel) (by decide +kernel)
set_option maxRecDepth 20000 in
theorem gX1_cut_X2_pieceBegin_n91 : GoodIn wsX1_cut (wsX2_pieceBegin) := ggX1_cut_X2_pieceBegin
set_option maxRecDepth 20000 in
theorem ggX1_cut_X2_room : GoodIn wsX1_cut wsX2_room := goodIn_r _ [54, 32, 43, 41, 55, 56, 14, 57, 58, 59, 60, 90, 91, 92, 93] (by decide +kernel) (by decide +kernel)
set_option maxRecDepth 20000 in
theorem gX1_cut_X2_room_n97 : GoodIn wsX1_cut (wsX2_room) := ggX1_cut_X2_room
set_option maxRecDepth 20000 in
theorem ggX1_cut_X1_isNearer : GoodIn wsX1_cut wsX1_isNearer := goodIn_r _ [64, 6, 7, 8, 9, 10, 11, 12, 13, 14, 15, 74, 75, 76, 77, 78, 79, 80, 81, 82, 83, 84] (by decide +kernel) (by decide +kernel)
set_option maxRecDepth 20000 in
theorem gX1_cut_X1_isNearer : GoodIn wsX1_cut (wsV RX1 100 RX1 yX1_isNearer wsX1_isNearer) := goodIn_app (goodIn_of _ (by decide +kernel)) ggX1_cut_X1_isNearer
set_option maxRecDepth 20000 in
theorem ggX1_cut_X1_decide : GoodIn wsX1_cut wsX1_decide := goodIn_r _ [68, 69, 70, 71, 72, 73, 74, 75, 76, 77, 78, 79, 80, 81, 82, 83, 84] (by decide +kernel) (by decide +kernel)
set_option maxRecDepth 20000 in
theorem gX1_cut_X1_decide : GoodIn wsX1_cut (wsV RX1 47 RX1 yX1_decide wsX1_decide) := goodIn_app (goodIn_of _ (by decide +kernel)) ggX1_cut_X1_decide
theorem dX1_cut_0 : decode cX1_cut 0 = .ok (.aload_n 0, 1) := by decide +kernel
theorem dX1_cut_1 : decode cX1_cut 1 = .ok (.getfield 18, 3) := by decide +kernel
theorem dX1_cut_4 : decode cX1_cut 4 = .ok (.aload_n 0, 1) := by decide +kernel
theorem dX1_cut_5 : decode cX1_cut 5 = .ok (.getfield 21, 3) := by decide +kernel
theorem dX1_cut_8 : decode cX1_cut 8 = .ok (.iadd, 1) := by decide +kernel
theorem dX1_cut_9 : decode cX1_cut 9 = .ok (.istore_n 1, 1) := by decide +kernel
theorem dX1_cut_10 : decode cX1_cut 10 = .ok (.bipush (-6), 2) := by decide +kernel
theorem dX1_cut_12 : decode cX1_cut 12 = .ok (.istore_n 2, 1) := by decide +kernel
theorem dX1_cut_13 : decode cX1_cut 13 = .ok (.bipush (-6), 2) := by decide +kernel
theorem dX1_cut_15 : decode cX1_cut 15 = .ok (.istore_n 3, 1) := by decide +kernel
theorem dX1_cut_16 : decode cX1_cut 16 = .ok (.iconst 0, 1) := by decide +kernel
theorem dX1_cut_17 : decode cX1_cut 17 = .ok (.istore 4, 2) := by decide +kernel
theorem dX1_cut_19 : decode cX1_cut 19 = .ok (.iconst 0, 1) := by decide +kernel
theorem dX1_cut_20 : decode cX1_cut 20 = .ok (.istore 5, 2) := by decide +kernel
theorem dX1_cut_22 : decode cX1_cut 22 = .ok (.iload 5, 2) := by decide +kernel
theorem dX1_cut_24 : decode cX1_cut 24 = .ok (.bipush 6, 2) := by decide +kernel
theorem dX1_cut_26 : decode cX1_cut 26 = .ok (.if_icmp .ge 117, 3) := by decide +kernel
theorem dX1_cut_29 : decode cX1_cut 29 = .ok (.aload_n 0, 1) := by decide +kernel
theorem dX1_cut_30 : decode cX1_cut 30 = .ok (.iload 5, 2) := by decide +kernel
theorem dX1_cut_32 : decode cX1_cut 32 = .ok (.invokevirtual 80, 3) := by decide +kernel
theorem dX1_cut_35 : decode cX1_cut 35 = .ok (.aload_n 0, 1) := by decide +kernel
theorem dX1_cut_36 : decode cX1_cut 36 = .ok (.getfield 39, 3) := by decide +kernel
theorem dX1_cut_39 : decode cX1_cut 39 = .ok (.iconst 0, 1) := by decide +kernel
theorem dX1_cut_40 : decode cX1_cut 40 = .ok (.invokevirtual 57, 3) := by decide +kernel
theorem dX1_cut_43 : decode cX1_cut 43 = .ok (.if_icmp .gt 94, 3) := by decide +kernel
theorem dX1_cut_46 : decode cX1_cut 46 = .ok (.aload_n 0, 1) := by decide +kernel
theorem dX1_cut_47 : decode cX1_cut 47 = .ok (.getfield 39, 3) := by decide +kernel
theorem dX1_cut_50 : decode cX1_cut 50 = .ok (.aload_n 0, 1) := by decide +kernel
theorem dX1_cut_51 : decode cX1_cut 51 = .ok (.getfield 9, 3) := by decide +kernel
theorem dX1_cut_54 : decode cX1_cut 54 = .ok (.iload 5, 2) := by decide +kernel
theorem dX1_cut_56 : decode cX1_cut 56 = .ok (.aload_n 0, 1) := by decide +kernel
theorem dX1_cut_57 : decode cX1_cut 57 = .ok (.getfield 43, 3) := by decide +kernel
theorem dX1_cut_60 : decode cX1_cut 60 = .ok (.invokevirtual 83, 3) := by decide +kernel
theorem dX1_cut_63 : decode cX1_cut 63 = .ok (.aload_n 0, 1) := by decide +kernel
theorem dX1_cut_64 : decode cX1_cut 64 = .ok (.getfield 43, 3) := by decide +kernel
theorem dX1_cut_67 : decode cX1_cut 67 = .ok (.aload_n 0, 1) := by decide +kernel
theorem dX1_cut_68 : decode cX1_cut 68 = .ok (.getfield 18, 3) := by decide +kernel
theorem dX1_cut_71 : decode cX1_cut 71 = .ok (.iload_n 1, 1) := by decide +kernel
theorem dX1_cut_72 : decode cX1_cut 72 = .ok (.aload_n 0, 1) := by decide +kernel
theorem dX1_cut_73 : decode cX1_cut 73 = .ok (.invokevirtual 87, 3) := by decide +kernel
theorem dX1_cut_76 : decode cX1_cut 76 = .ok (.invokevirtual 91, 3) := by decide +kernel
theorem dX1_cut_79 : decode cX1_cut 79 = .ok (.istore 6, 2) := by decide +kernel
theorem dX1_cut_81 : decode cX1_cut 81 = .ok (.aload_n 0, 1) := by decide +kernel
theorem dX1_cut_82 : decode cX1_cut 82 = .ok (.getfield 43, 3) := by decide +kernel
theorem dX1_cut_85 : decode cX1_cut 85 = .ok (.iload 6, 2) := by decide +kernel
theorem dX1_cut_87 : decode cX1_cut 87 = .ok (.iload_n 1, 1) := by decide +kernel
theorem dX1_cut_88 : decode cX1_cut 88 = .ok (.aload_n 0, 1) := by decide +kernel
theorem dX1_cut_89 : decode cX1_cut 89 = .ok (.invokevirtual 87, 3) := by decide +kernel
theorem dX1_cut_92 : decode cX1_cut 92 = .ok (.invokevirtual 97, 3) := by decide +kernel
theorem dX1_cut_95 : decode cX1_cut 95 = .ok (.istore 7, 2) := by decide +kernel
theorem dX1_cut_97 : decode cX1_cut 97 = .ok (.iload 7, 2) := by decide +kernel
theorem dX1_cut_99 : decode cX1_cut 99 = .ok (.iload 4, 2) := by decide +kernel
theorem dX1_cut_101 : decode cX1_cut 101 = .ok (.if_icmp .gt 26, 3) := by decide +kernel
theorem dX1_cut_104 : decode cX1_cut 104 = .ok (.iload 7, 2) := by decide +kernel
theorem dX1_cut_106 : decode cX1_cut 106 = .ok (.iload 4, 2) := by decide +kernel
theorem dX1_cut_108 : decode cX1_cut 108 = .ok (.if_icmp .ne 29, 3) := by decide +kernel
theorem dX1_cut_111 : decode cX1_cut 111 = .ok (.iload_n 2, 1) := by decide +kernel
theorem dX1_cut_112 : decode cX1_cut 112 = .ok (.bipush (-6), 2) := by decide +kernel
theorem dX1_cut_114 : decode cX1_cut 114 = .ok (.if_icmp .eq 23, 3) := by decide +kernel
theorem dX1_cut_117 : decode cX1_cut 117 = .ok (.aload_n 0, 1) := by decide +kernel
theorem dX1_cut_118 : decode cX1_cut 118 = .ok (.iload 5, 2) := by decide +kernel
theorem dX1_cut_120 : decode cX1_cut 120 = .ok (.iload_n 2, 1) := by decide +kernel
theorem dX1_cut_121 : decode cX1_cut 121 = .ok (.invokevirtual 100, 3) := by decide +kernel
theorem dX1_cut_124 : decode cX1_cut 124 = .ok (.ifCond .eq 13, 3) := by decide +kernel
theorem dX1_cut_127 : decode cX1_cut 127 = .ok (.iload 5, 2) := by decide +kernel
theorem dX1_cut_129 : decode cX1_cut 129 = .ok (.istore_n 2, 1) := by decide +kernel
theorem dX1_cut_130 : decode cX1_cut 130 = .ok (.iload 6, 2) := by decide +kernel
theorem dX1_cut_132 : decode cX1_cut 132 = .ok (.istore_n 3, 1) := by decide +kernel
theorem dX1_cut_133 : decode cX1_cut 133 = .ok (.iload 7, 2) := by decide +kernel
theorem dX1_cut_135 : decode cX1_cut 135 = .ok (.istore 4, 2) := by decide +kernel
theorem dX1_cut_137 : decode cX1_cut 137 = .ok (.iinc 5 1, 3) := by decide +kernel
theorem dX1_cut_140 : decode cX1_cut 140 = .ok (.goto (-118), 3) := by decide +kernel
theorem dX1_cut_143 : decode cX1_cut 143 = .ok (.iload_n 2, 1) := by decide +kernel
theorem dX1_cut_144 : decode cX1_cut 144 = .ok (.bipush (-6), 2) := by decide +kernel
theorem dX1_cut_146 : decode cX1_cut 146 = .ok (.if_icmp .eq 27, 3) := by decide +kernel
theorem dX1_cut_149 : decode cX1_cut 149 = .ok (.iload 4, 2) := by decide +kernel
theorem dX1_cut_151 : decode cX1_cut 151 = .ok (.aload_n 0, 1) := by decide +kernel
theorem dX1_cut_152 : decode cX1_cut 152 = .ok (.getfield 39, 3) := by decide +kernel
theorem dX1_cut_155 : decode cX1_cut 155 = .ok (.iconst 3, 1) := by decide +kernel
theorem dX1_cut_156 : decode cX1_cut 156 = .ok (.invokevirtual 57, 3) := by decide +kernel
theorem dX1_cut_159 : decode cX1_cut 159 = .ok (.if_icmp .lt 14, 3) := by decide +kernel
theorem dX1_cut_162 : decode cX1_cut 162 = .ok (.aload_n 0, 1) := by decide +kernel
theorem dX1_cut_163 : decode cX1_cut 163 = .ok (.iconst 2, 1) := by decide +kernel
theorem dX1_cut_164 : decode cX1_cut 164 = .ok (.iload_n 2, 1) := by decide +kernel
theorem dX1_cut_165 : decode cX1_cut 165 = .ok (.iload_n 3, 1) := by decide +kernel
theorem dX1_cut_166 : decode cX1_cut 166 = .ok (.iload 4, 2) := by decide +kernel
theorem dX1_cut_168 : decode cX1_cut 168 = .ok (.bipush (-6), 2) := by decide +kernel
theorem dX1_cut_170 : decode cX1_cut 170 = .ok (.invokevirtual 47, 3) := by decide +kernel
theorem dX1_cut_173 : decode cX1_cut 173 = .ok (.return_, 1) := by decide +kernel
set_option maxRecDepth 20000 in
theorem ggX1_bestColour_X1_awayFrom : GoodIn wsX1_bestColour wsX1_awayFrom := goodIn_r _ [9, 10, 11, 12, 13, 14, 67, 68, 69, 70, 71, 72, 73, 74, 75, 76, 77] (by decide +kernel) (by decide +kernel)
set_option maxRecDepth 20000 in
theorem gX1_bestColour_X1_awayFrom : GoodIn wsX1_bestColour (wsV RX1 80 RX1 yX1_awayFrom wsX1_awayFrom) := goodIn_app (goodIn_of _ (by decide +kernel)) ggX1_bestColour_X1_awayFrom
set_option maxRecDepth 20000 in
theorem ggX1_bestColour_X0_ruleNow : GoodIn wsX1_bestColour wsX0_ruleNow := goodIn_r _ [18, 19, 20, 21, 22, 78, 79, 80, 81, 82] (by decide +kernel) (by decide +kernel)
set_option maxRecDepth 20000 in
theorem gX1_bestColour_X0_ruleNow_n57 : GoodIn wsX1_bestColour (wsX0_ruleNow) := ggX1_bestColour_X0_ruleNow
set_option maxRecDepth 20000 in
theorem ggX1_bestColour_X0_showColour : GoodIn wsX1_bestColour wsX0_showColour := goodIn_r _ [25, 26, 27, 28, 29, 30, 31, 32, 33, 34, 16, 35, 36, 20, 21, 22, 37, 38, 39, 40, 41, 42, 78, 79, 80, 81, 82, 83, 84, 85, 86] (by decide +kernel) (by decide +kernel)
set_option maxRecDepth 20000 in
theorem gX1_bestColour_X0_showColour_n83 : GoodIn wsX1_bestColour (wsX0_showColour) := ggX1_bestColour_X0_showColour
set_option maxRecDepth 20000 in
theorem ggX1_bestColour_X1_fillsVoids : GoodIn wsX1_bestColour wsX1_fillsVoids := goodIn_r _ [46, 1, 15, 16, 17, 18, 19, 20, 21, 22, 67, 68, 69, 70, 71, 72, 73, 74, 75, 76, 77, 78, 79, 80, 81, 82] (by decide +kernel) (by decide +kernel)
set_option maxRecDepth 20000 in
theorem gX1_bestColour_X1_fillsVoids : GoodIn wsX1_bestColour (wsV RX1 87 RX1 yX1_fillsVoids wsX1_fillsVoids) := goodIn_app (goodIn_of _ (by decide +kernel)) ggX1_bestColour_X1_fillsVoids
set_option maxRecDepth 20000 in
theorem ggX1_bestColour_X2_isFree : GoodIn wsX1_bestColour wsX2_isFree := goodIn_r _ [49, 50, 51, 52, 28, 53, 31, 42, 40, 54, 55, 13, 56, 57, 58, 59, 83, 84, 85, 86] (by decide +kernel) (by decide +kernel)
set_option maxRecDepth 20000 in
theorem gX1_bestColour_X2_isFree_n104 : GoodIn wsX1_bestColour (wsX2_isFree) := ggX1_bestColour_X2_isFree
set_option maxRecDepth 20000 in
theorem ggX1_bestColour_X2_lastEndUpTo : GoodIn wsX1_bestColour wsX2_lastEndUpTo := goodIn_r _ [62, 31, 42, 57, 58, 13, 59, 83, 84, 85, 86] (by decide +kernel) (by decide +kernel)
set_option maxRecDepth 20000 in
theorem gX1_bestColour_X2_lastEndUpTo_n111 : GoodIn wsX1_bestColour (wsX2_lastEndUpTo) := ggX1_bestColour_X2_lastEndUpTo
set_option maxRecDepth 20000 in
theorem ggX1_bestColour_X1_isNearer : GoodIn wsX1_bestColour wsX1_isNearer := goodIn_r _ [66, 5, 6, 7, 8, 9, 10, 11, 12, 13, 14, 67, 68, 69, 70, 71, 72, 73, 74, 75, 76, 77] (by decide +kernel) (by decide +kernel)
set_option maxRecDepth 20000 in
theorem gX1_bestColour_X1_isNearer : GoodIn wsX1_bestColour (wsV RX1 100 RX1 yX1_isNearer wsX1_isNearer) := goodIn_app (goodIn_of _ (by decide +kernel)) ggX1_bestColour_X1_isNearer
theorem dX1_bestColour_0 : decode cX1_bestColour 0 = .ok (.bipush (-6), 2) := by decide +kernel
theorem dX1_bestColour_2 : decode cX1_bestColour 2 = .ok (.istore_n 2, 1) := by decide +kernel
theorem dX1_bestColour_3 : decode cX1_bestColour 3 = .ok (.iconst 0, 1) := by decide +kernel
theorem dX1_bestColour_4 : decode cX1_bestColour 4 = .ok (.istore_n 3, 1) := by decide +kernel
theorem dX1_bestColour_5 : decode cX1_bestColour 5 = .ok (.iconst 0, 1) := by decide +kernel
theorem dX1_bestColour_6 : decode cX1_bestColour 6 = .ok (.istore 4, 2) := by decide +kernel
theorem dX1_bestColour_8 : decode cX1_bestColour 8 = .ok (.iload 4, 2) := by decide +kernel
theorem dX1_bestColour_10 : decode cX1_bestColour 10 = .ok (.bipush 6, 2) := by decide +kernel
theorem dX1_bestColour_12 : decode cX1_bestColour 12 = .ok (.if_icmp .ge 117, 3) := by decide +kernel
theorem dX1_bestColour_15 : decode cX1_bestColour 15 = .ok (.aload_n 0, 1) := by decide +kernel
theorem dX1_bestColour_16 : decode cX1_bestColour 16 = .ok (.iload 4, 2) := by decide +kernel
theorem dX1_bestColour_18 : decode cX1_bestColour 18 = .ok (.invokevirtual 80, 3) := by decide +kernel
theorem dX1_bestColour_21 : decode cX1_bestColour 21 = .ok (.aload_n 0, 1) := by decide +kernel
theorem dX1_bestColour_22 : decode cX1_bestColour 22 = .ok (.getfield 39, 3) := by decide +kernel
theorem dX1_bestColour_25 : decode cX1_bestColour 25 = .ok (.iconst 0, 1) := by decide +kernel
theorem dX1_bestColour_26 : decode cX1_bestColour 26 = .ok (.invokevirtual 57, 3) := by decide +kernel
theorem dX1_bestColour_29 : decode cX1_bestColour 29 = .ok (.if_icmp .gt 94, 3) := by decide +kernel
theorem dX1_bestColour_32 : decode cX1_bestColour 32 = .ok (.aload_n 0, 1) := by decide +kernel
theorem dX1_bestColour_33 : decode cX1_bestColour 33 = .ok (.getfield 39, 3) := by decide +kernel
theorem dX1_bestColour_36 : decode cX1_bestColour 36 = .ok (.aload_n 0, 1) := by decide +kernel
theorem dX1_bestColour_37 : decode cX1_bestColour 37 = .ok (.getfield 9, 3) := by decide +kernel
theorem dX1_bestColour_40 : decode cX1_bestColour 40 = .ok (.iload 4, 2) := by decide +kernel
theorem dX1_bestColour_42 : decode cX1_bestColour 42 = .ok (.aload_n 0, 1) := by decide +kernel
theorem dX1_bestColour_43 : decode cX1_bestColour 43 = .ok (.getfield 43, 3) := by decide +kernel
theorem dX1_bestColour_46 : decode cX1_bestColour 46 = .ok (.invokevirtual 83, 3) := by decide +kernel
theorem dX1_bestColour_49 : decode cX1_bestColour 49 = .ok (.aload_n 0, 1) := by decide +kernel
theorem dX1_bestColour_50 : decode cX1_bestColour 50 = .ok (.getfield 43, 3) := by decide +kernel
theorem dX1_bestColour_53 : decode cX1_bestColour 53 = .ok (.iload_n 1, 1) := by decide +kernel
theorem dX1_bestColour_54 : decode cX1_bestColour 54 = .ok (.iload_n 1, 1) := by decide +kernel
theorem dX1_bestColour_55 : decode cX1_bestColour 55 = .ok (.aload_n 0, 1) := by decide +kernel
theorem dX1_bestColour_56 : decode cX1_bestColour 56 = .ok (.getfield 21, 3) := by decide +kernel
theorem dX1_bestColour_59 : decode cX1_bestColour 59 = .ok (.iadd, 1) := by decide +kernel
theorem dX1_bestColour_60 : decode cX1_bestColour 60 = .ok (.aload_n 0, 1) := by decide +kernel
theorem dX1_bestColour_61 : decode cX1_bestColour 61 = .ok (.invokevirtual 87, 3) := by decide +kernel
theorem dX1_bestColour_64 : decode cX1_bestColour 64 = .ok (.invokevirtual 104, 3) := by decide +kernel
theorem dX1_bestColour_67 : decode cX1_bestColour 67 = .ok (.ifCond .eq 56, 3) := by decide +kernel
theorem dX1_bestColour_70 : decode cX1_bestColour 70 = .ok (.iload_n 1, 1) := by decide +kernel
theorem dX1_bestColour_71 : decode cX1_bestColour 71 = .ok (.aload_n 0, 1) := by decide +kernel
theorem dX1_bestColour_72 : decode cX1_bestColour 72 = .ok (.getfield 43, 3) := by decide +kernel
theorem dX1_bestColour_75 : decode cX1_bestColour 75 = .ok (.iload_n 1, 1) := by decide +kernel
theorem dX1_bestColour_76 : decode cX1_bestColour 76 = .ok (.aload_n 0, 1) := by decide +kernel
theorem dX1_bestColour_77 : decode cX1_bestColour 77 = .ok (.getfield 39, 3) := by decide +kernel
theorem dX1_bestColour_80 : decode cX1_bestColour 80 = .ok (.getfield 108, 3) := by decide +kernel
theorem dX1_bestColour_83 : decode cX1_bestColour 83 = .ok (.invokevirtual 111, 3) := by decide +kernel
theorem dX1_bestColour_86 : decode cX1_bestColour 86 = .ok (.isub, 1) := by decide +kernel
theorem dX1_bestColour_87 : decode cX1_bestColour 87 = .ok (.istore 5, 2) := by decide +kernel
theorem dX1_bestColour_89 : decode cX1_bestColour 89 = .ok (.iload_n 2, 1) := by decide +kernel
theorem dX1_bestColour_90 : decode cX1_bestColour 90 = .ok (.bipush (-6), 2) := by decide +kernel
theorem dX1_bestColour_92 : decode cX1_bestColour 92 = .ok (.if_icmp .eq 25, 3) := by decide +kernel
theorem dX1_bestColour_95 : decode cX1_bestColour 95 = .ok (.iload 5, 2) := by decide +kernel
theorem dX1_bestColour_97 : decode cX1_bestColour 97 = .ok (.iload_n 3, 1) := by decide +kernel
theorem dX1_bestColour_98 : decode cX1_bestColour 98 = .ok (.if_icmp .lt 19, 3) := by decide +kernel
theorem dX1_bestColour_101 : decode cX1_bestColour 101 = .ok (.iload 5, 2) := by decide +kernel
theorem dX1_bestColour_103 : decode cX1_bestColour 103 = .ok (.iload_n 3, 1) := by decide +kernel
theorem dX1_bestColour_104 : decode cX1_bestColour 104 = .ok (.if_icmp .ne 19, 3) := by decide +kernel
theorem dX1_bestColour_107 : decode cX1_bestColour 107 = .ok (.aload_n 0, 1) := by decide +kernel
theorem dX1_bestColour_108 : decode cX1_bestColour 108 = .ok (.iload 4, 2) := by decide +kernel
theorem dX1_bestColour_110 : decode cX1_bestColour 110 = .ok (.iload_n 2, 1) := by decide +kernel
theorem dX1_bestColour_111 : decode cX1_bestColour 111 = .ok (.invokevirtual 100, 3) := by decide +kernel
theorem dX1_bestColour_114 : decode cX1_bestColour 114 = .ok (.ifCond .eq 9, 3) := by decide +kernel
theorem dX1_bestColour_117 : decode cX1_bestColour 117 = .ok (.iload 4, 2) := by decide +kernel
theorem dX1_bestColour_119 : decode cX1_bestColour 119 = .ok (.istore_n 2, 1) := by decide +kernel
theorem dX1_bestColour_120 : decode cX1_bestColour 120 = .ok (.iload 5, 2) := by decide +kernel
theorem dX1_bestColour_122 : decode cX1_bestColour 122 = .ok (.istore_n 3, 1) := by decide +kernel
theorem dX1_bestColour_123 : decode cX1_bestColour 123 = .ok (.iinc 4 1, 3) := by decide +kernel
theorem dX1_bestColour_126 : decode cX1_bestColour 126 = .ok (.goto (-118), 3) := by decide +kernel
theorem dX1_bestColour_129 : decode cX1_bestColour 129 = .ok (.iload_n 2, 1) := by decide +kernel
theorem dX1_bestColour_130 : decode cX1_bestColour 130 = .ok (.ireturn, 1) := by decide +kernel
set_option maxRecDepth 20000 in
theorem ggX1_isLineFree_X0_showLine : GoodIn wsX1_isLineFree wsX0_showLine := goodIn_r _ [8, 9, 10, 11, 12, 13, 14, 15, 16, 17, 6, 18, 19, 20, 21, 22, 23, 24, 25, 26, 27, 28, 54, 55, 56, 57, 58, 59, 60, 61, 62] (by decide +kernel) (by decide +kernel)
set_option maxRecDepth 20000 in
theorem gX1_isLineFree_X0_showLine_n115 : GoodIn wsX1_isLineFree (wsX0_showLine) := ggX1_isLineFree_X0_showLine
set_option maxRecDepth 20000 in
theorem ggX1_isLineFree_X2_isFree : GoodIn wsX1_isLineFree wsX2_isFree := goodIn_r _ [31, 32, 33, 34, 11, 35, 14, 28, 26, 36, 37, 38, 39, 40, 41, 42, 59, 60, 61, 62] (by decide +kernel) (by decide +kernel)
set_option maxRecDepth 20000 in
theorem gX1_isLineFree_X2_isFree_n104 : GoodIn wsX1_isLineFree (wsX2_isFree) := ggX1_isLineFree_X2_isFree
theorem dX1_isLineFree_0 : decode cX1_isLineFree 0 = .ok (.aload_n 0, 1) := by decide +kernel
theorem dX1_isLineFree_1 : decode cX1_isLineFree 1 = .ok (.getfield 39, 3) := by decide +kernel
theorem dX1_isLineFree_4 : decode cX1_isLineFree 4 = .ok (.iload_n 1, 1) := by decide +kernel
theorem dX1_isLineFree_5 : decode cX1_isLineFree 5 = .ok (.aload_n 0, 1) := by decide +kernel
theorem dX1_isLineFree_6 : decode cX1_isLineFree 6 = .ok (.getfield 43, 3) := by decide +kernel
theorem dX1_isLineFree_9 : decode cX1_isLineFree 9 = .ok (.invokevirtual 115, 3) := by decide +kernel
theorem dX1_isLineFree_12 : decode cX1_isLineFree 12 = .ok (.aload_n 0, 1) := by decide +kernel
theorem dX1_isLineFree_13 : decode cX1_isLineFree 13 = .ok (.getfield 43, 3) := by decide +kernel
theorem dX1_isLineFree_16 : decode cX1_isLineFree 16 = .ok (.aload_n 0, 1) := by decide +kernel
theorem dX1_isLineFree_17 : decode cX1_isLineFree 17 = .ok (.getfield 18, 3) := by decide +kernel
theorem dX1_isLineFree_20 : decode cX1_isLineFree 20 = .ok (.aload_n 0, 1) := by decide +kernel
theorem dX1_isLineFree_21 : decode cX1_isLineFree 21 = .ok (.getfield 18, 3) := by decide +kernel
theorem dX1_isLineFree_24 : decode cX1_isLineFree 24 = .ok (.aload_n 0, 1) := by decide +kernel
theorem dX1_isLineFree_25 : decode cX1_isLineFree 25 = .ok (.getfield 21, 3) := by decide +kernel
theorem dX1_isLineFree_28 : decode cX1_isLineFree 28 = .ok (.iadd, 1) := by decide +kernel
theorem dX1_isLineFree_29 : decode cX1_isLineFree 29 = .ok (.iconst 1, 1) := by decide +kernel
theorem dX1_isLineFree_30 : decode cX1_isLineFree 30 = .ok (.invokevirtual 104, 3) := by decide +kernel
theorem dX1_isLineFree_33 : decode cX1_isLineFree 33 = .ok (.ireturn, 1) := by decide +kernel
set_option maxRecDepth 20000 in
theorem ggX1_fillsVoids_X0_ruleNow : GoodIn wsX1_fillsVoids wsX0_ruleNow := goodIn_r _ [5, 6, 7, 8, 9, 21, 22, 23, 24, 25] (by decide +kernel) (by decide +kernel)
set_option maxRecDepth 20000 in
theorem gX1_fillsVoids_X0_ruleNow_n57 : GoodIn wsX1_fillsVoids (wsX0_ruleNow) := ggX1_fillsVoids_X0_ruleNow
theorem dX1_fillsVoids_0 : decode cX1_fillsVoids 0 = .ok (.aload_n 0, 1) := by decide +kernel
theorem dX1_fillsVoids_1 : decode cX1_fillsVoids 1 = .ok (.getfield 39, 3) := by decide +kernel
theorem dX1_fillsVoids_4 : decode cX1_fillsVoids 4 = .ok (.iconst 5, 1) := by decide +kernel
theorem dX1_fillsVoids_5 : decode cX1_fillsVoids 5 = .ok (.invokevirtual 57, 3) := by decide +kernel
theorem dX1_fillsVoids_8 : decode cX1_fillsVoids 8 = .ok (.iconst 1, 1) := by decide +kernel
theorem dX1_fillsVoids_9 : decode cX1_fillsVoids 9 = .ok (.if_icmp .ne 7, 3) := by decide +kernel
theorem dX1_fillsVoids_12 : decode cX1_fillsVoids 12 = .ok (.iconst 1, 1) := by decide +kernel
theorem dX1_fillsVoids_13 : decode cX1_fillsVoids 13 = .ok (.goto 4, 3) := by decide +kernel
theorem dX1_fillsVoids_16 : decode cX1_fillsVoids 16 = .ok (.iconst 0, 1) := by decide +kernel
theorem dX1_fillsVoids_17 : decode cX1_fillsVoids 17 = .ok (.ireturn, 1) := by decide +kernel
theorem dX1_awayFrom_0 : decode cX1_awayFrom 0 = .ok (.iload_n 1, 1) := by decide +kernel
theorem dX1_awayFrom_1 : decode cX1_awayFrom 1 = .ok (.aload_n 0, 1) := by decide +kernel
theorem dX1_awayFrom_2 : decode cX1_awayFrom 2 = .ok (.getfield 15, 3) := by decide +kernel
theorem dX1_awayFrom_5 : decode cX1_awayFrom 5 = .ok (.isub, 1) := by decide +kernel
theorem dX1_awayFrom_6 : decode cX1_awayFrom 6 = .ok (.invokestatic 119, 3) := by decide +kernel
theorem dX1_awayFrom_9 : decode cX1_awayFrom 9 = .ok (.ireturn, 1) := by decide +kernel
set_option maxRecDepth 20000 in
theorem ggX1_isNearer_X1_awayFrom : GoodIn wsX1_isNearer wsX1_awayFrom := goodIn_r _ [5, 6, 7, 8, 9, 10, 11, 12, 13, 14, 15, 16, 17, 18, 19, 20, 21] (by decide +kernel) (by decide +kernel)
set_option maxRecDepth 20000 in
theorem gX1_isNearer_X1_awayFrom : GoodIn wsX1_isNearer (wsV RX1 80 RX1 yX1_awayFrom wsX1_awayFrom) := goodIn_app (goodIn_of _ (by decide +kernel)) ggX1_isNearer_X1_awayFrom
theorem dX1_isNearer_0 : decode cX1_isNearer 0 = .ok (.aload_n 0, 1) := by decide +kernel
theorem dX1_isNearer_1 : decode cX1_isNearer 1 = .ok (.iload_n 1, 1) := by decide +kernel
theorem dX1_isNearer_2 : decode cX1_isNearer 2 = .ok (.invokevirtual 80, 3) := by decide +kernel
theorem dX1_isNearer_5 : decode cX1_isNearer 5 = .ok (.aload_n 0, 1) := by decide +kernel
theorem dX1_isNearer_6 : decode cX1_isNearer 6 = .ok (.iload_n 2, 1) := by decide +kernel
theorem dX1_isNearer_7 : decode cX1_isNearer 7 = .ok (.invokevirtual 80, 3) := by decide +kernel
theorem dX1_isNearer_10 : decode cX1_isNearer 10 = .ok (.if_icmp .ge 7, 3) := by decide +kernel
theorem dX1_isNearer_13 : decode cX1_isNearer 13 = .ok (.iconst 1, 1) := by decide +kernel
theorem dX1_isNearer_14 : decode cX1_isNearer 14 = .ok (.goto 4, 3) := by decide +kernel
theorem dX1_isNearer_17 : decode cX1_isNearer 17 = .ok (.iconst 0, 1) := by decide +kernel
theorem dX1_isNearer_18 : decode cX1_isNearer 18 = .ok (.ireturn, 1) := by decide +kernel
theorem dX2_init_0 : decode cX2_init 0 = .ok (.aload_n 0, 1) := by decide +kernel
theorem dX2_init_1 : decode cX2_init 1 = .ok (.invokespecial 3, 3) := by decide +kernel
theorem dX2_init_4 : decode cX2_init 4 = .ok (.aload_n 0, 1) := by decide +kernel
theorem dX2_init_5 : decode cX2_init 5 = .ok (.iconst 0, 1) := by decide +kernel
theorem dX2_init_6 : decode cX2_init 6 = .ok (.putfield 9, 3) := by decide +kernel
theorem dX2_init_9 : decode cX2_init 9 = .ok (.aload_n 0, 1) := by decide +kernel
theorem dX2_init_10 : decode cX2_init 10 = .ok (.bipush 48, 2) := by decide +kernel
theorem dX2_init_12 : decode cX2_init 12 = .ok (.newarray .int, 2) := by decide +kernel
theorem dX2_init_14 : decode cX2_init 14 = .ok (.putfield 15, 3) := by decide +kernel
theorem dX2_init_17 : decode cX2_init 17 = .ok (.aload_n 0, 1) := by decide +kernel
theorem dX2_init_18 : decode cX2_init 18 = .ok (.bipush 48, 2) := by decide +kernel
theorem dX2_init_20 : decode cX2_init 20 = .ok (.newarray .int, 2) := by decide +kernel
theorem dX2_init_22 : decode cX2_init 22 = .ok (.putfield 19, 3) := by decide +kernel
theorem dX2_init_25 : decode cX2_init 25 = .ok (.aload_n 0, 1) := by decide +kernel
theorem dX2_init_26 : decode cX2_init 26 = .ok (.bipush 48, 2) := by decide +kernel
theorem dX2_init_28 : decode cX2_init 28 = .ok (.newarray .int, 2) := by decide +kernel
theorem dX2_init_30 : decode cX2_init 30 = .ok (.putfield 22, 3) := by decide +kernel
theorem dX2_init_33 : decode cX2_init 33 = .ok (.return_, 1) := by decide +kernel
theorem dX2_clear_0 : decode cX2_clear 0 = .ok (.aload_n 0, 1) := by decide +kernel
theorem dX2_clear_1 : decode cX2_clear 1 = .ok (.iconst 0, 1) := by decide +kernel
theorem dX2_clear_2 : decode cX2_clear 2 = .ok (.putfield 9, 3) := by decide +kernel
theorem dX2_clear_5 : decode cX2_clear 5 = .ok (.return_, 1) := by decide +kernel
set_option maxRecDepth 20000 in
theorem ggX2_add_X3_isBelow : GoodIn wsX2_add wsX3_isBelow := goodIn_r _ [7] (by decide +kernel) (by decide +kernel)
set_option maxRecDepth 20000 in
theorem gX2_add_X3_isBelow_n25 : GoodIn wsX2_add (wsX3_isBelow) := ggX2_add_X3_isBelow
theorem dX2_add_0 : decode cX2_add 0 = .ok (.aload_n 0, 1) := by decide +kernel
theorem dX2_add_1 : decode cX2_add 1 = .ok (.getfield 9, 3) := by decide +kernel
theorem dX2_add_4 : decode cX2_add 4 = .ok (.bipush 48, 2) := by decide +kernel
theorem dX2_add_6 : decode cX2_add 6 = .ok (.invokestatic 25, 3) := by decide +kernel
theorem dX2_add_9 : decode cX2_add 9 = .ok (.ifCond .ne 4, 3) := by decide +kernel
theorem dX2_add_12 : decode cX2_add 12 = .ok (.return_, 1) := by decide +kernel
theorem dX2_add_13 : decode cX2_add 13 = .ok (.aload_n 0, 1) := by decide +kernel
theorem dX2_add_14 : decode cX2_add 14 = .ok (.getfield 9, 3) := by decide +kernel
theorem dX2_add_17 : decode cX2_add 17 = .ok (.istore 4, 2) := by decide +kernel
theorem dX2_add_19 : decode cX2_add 19 = .ok (.iload 4, 2) := by decide +kernel
theorem dX2_add_21 : decode cX2_add 21 = .ok (.ifCond .le 70, 3) := by decide +kernel
theorem dX2_add_24 : decode cX2_add 24 = .ok (.aload_n 0, 1) := by decide +kernel
theorem dX2_add_25 : decode cX2_add 25 = .ok (.getfield 19, 3) := by decide +kernel
theorem dX2_add_28 : decode cX2_add 28 = .ok (.iload 4, 2) := by decide +kernel
theorem dX2_add_30 : decode cX2_add 30 = .ok (.iconst 1, 1) := by decide +kernel
theorem dX2_add_31 : decode cX2_add 31 = .ok (.isub, 1) := by decide +kernel
theorem dX2_add_32 : decode cX2_add 32 = .ok (.iaload, 1) := by decide +kernel
theorem dX2_add_33 : decode cX2_add 33 = .ok (.iload_n 2, 1) := by decide +kernel
theorem dX2_add_34 : decode cX2_add 34 = .ok (.if_icmp .le 57, 3) := by decide +kernel
theorem dX2_add_37 : decode cX2_add 37 = .ok (.aload_n 0, 1) := by decide +kernel
theorem dX2_add_38 : decode cX2_add 38 = .ok (.getfield 15, 3) := by decide +kernel
theorem dX2_add_41 : decode cX2_add 41 = .ok (.iload 4, 2) := by decide +kernel
theorem dX2_add_43 : decode cX2_add 43 = .ok (.aload_n 0, 1) := by decide +kernel
theorem dX2_add_44 : decode cX2_add 44 = .ok (.getfield 15, 3) := by decide +kernel
theorem dX2_add_47 : decode cX2_add 47 = .ok (.iload 4, 2) := by decide +kernel
theorem dX2_add_49 : decode cX2_add 49 = .ok (.iconst 1, 1) := by decide +kernel
theorem dX2_add_50 : decode cX2_add 50 = .ok (.isub, 1) := by decide +kernel
theorem dX2_add_51 : decode cX2_add 51 = .ok (.iaload, 1) := by decide +kernel
theorem dX2_add_52 : decode cX2_add 52 = .ok (.iastore, 1) := by decide +kernel
theorem dX2_add_53 : decode cX2_add 53 = .ok (.aload_n 0, 1) := by decide +kernel
theorem dX2_add_54 : decode cX2_add 54 = .ok (.getfield 19, 3) := by decide +kernel
theorem dX2_add_57 : decode cX2_add 57 = .ok (.iload 4, 2) := by decide +kernel
theorem dX2_add_59 : decode cX2_add 59 = .ok (.aload_n 0, 1) := by decide +kernel
theorem dX2_add_60 : decode cX2_add 60 = .ok (.getfield 19, 3) := by decide +kernel
theorem dX2_add_63 : decode cX2_add 63 = .ok (.iload 4, 2) := by decide +kernel
theorem dX2_add_65 : decode cX2_add 65 = .ok (.iconst 1, 1) := by decide +kernel
theorem dX2_add_66 : decode cX2_add 66 = .ok (.isub, 1) := by decide +kernel
theorem dX2_add_67 : decode cX2_add 67 = .ok (.iaload, 1) := by decide +kernel
theorem dX2_add_68 : decode cX2_add 68 = .ok (.iastore, 1) := by decide +kernel
theorem dX2_add_69 : decode cX2_add 69 = .ok (.aload_n 0, 1) := by decide +kernel
theorem dX2_add_70 : decode cX2_add 70 = .ok (.getfield 22, 3) := by decide +kernel
theorem dX2_add_73 : decode cX2_add 73 = .ok (.iload 4, 2) := by decide +kernel
theorem dX2_add_75 : decode cX2_add 75 = .ok (.aload_n 0, 1) := by decide +kernel
theorem dX2_add_76 : decode cX2_add 76 = .ok (.getfield 22, 3) := by decide +kernel
theorem dX2_add_79 : decode cX2_add 79 = .ok (.iload 4, 2) := by decide +kernel
theorem dX2_add_81 : decode cX2_add 81 = .ok (.iconst 1, 1) := by decide +kernel
theorem dX2_add_82 : decode cX2_add 82 = .ok (.isub, 1) := by decide +kernel
theorem dX2_add_83 : decode cX2_add 83 = .ok (.iaload, 1) := by decide +kernel
theorem dX2_add_84 : decode cX2_add 84 = .ok (.iastore, 1) := by decide +kernel
theorem dX2_add_85 : decode cX2_add 85 = .ok (.iinc 4 (-1), 3) := by decide +kernel
theorem dX2_add_88 : decode cX2_add 88 = .ok (.goto (-69), 3) := by decide +kernel
theorem dX2_add_91 : decode cX2_add 91 = .ok (.aload_n 0, 1) := by decide +kernel
theorem dX2_add_92 : decode cX2_add 92 = .ok (.getfield 15, 3) := by decide +kernel
theorem dX2_add_95 : decode cX2_add 95 = .ok (.iload 4, 2) := by decide +kernel
theorem dX2_add_97 : decode cX2_add 97 = .ok (.iload_n 1, 1) := by decide +kernel
theorem dX2_add_98 : decode cX2_add 98 = .ok (.iastore, 1) := by decide +kernel
theorem dX2_add_99 : decode cX2_add 99 = .ok (.aload_n 0, 1) := by decide +kernel
theorem dX2_add_100 : decode cX2_add 100 = .ok (.getfield 19, 3) := by decide +kernel
theorem dX2_add_103 : decode cX2_add 103 = .ok (.iload 4, 2) := by decide +kernel
theorem dX2_add_105 : decode cX2_add 105 = .ok (.iload_n 2, 1) := by decide +kernel
theorem dX2_add_106 : decode cX2_add 106 = .ok (.iastore, 1) := by decide +kernel
theorem dX2_add_107 : decode cX2_add 107 = .ok (.aload_n 0, 1) := by decide +kernel
theorem dX2_add_108 : decode cX2_add 108 = .ok (.getfield 22, 3) := by decide +kernel
theorem dX2_add_111 : decode cX2_add 111 = .ok (.iload 4, 2) := by decide +kernel
theorem dX2_add_113 : decode cX2_add 113 = .ok (.iload_n 2, 1) := by decide +kernel
theorem dX2_add_114 : decode cX2_add 114 = .ok (.iload_n 3, 1) := by decide +kernel
theorem dX2_add_115 : decode cX2_add 115 = .ok (.iadd, 1) := by decide +kernel
theorem dX2_add_116 : decode cX2_add 116 = .ok (.iastore, 1) := by decide +kernel
theorem dX2_add_117 : decode cX2_add 117 = .ok (.aload_n 0, 1) := by decide +kernel
theorem dX2_add_118 : decode cX2_add 118 = .ok (.dup, 1) := by decide +kernel
theorem dX2_add_119 : decode cX2_add 119 = .ok (.getfield 9, 3) := by decide +kernel
theorem dX2_add_122 : decode cX2_add 122 = .ok (.iconst 1, 1) := by decide +kernel
theorem dX2_add_123 : decode cX2_add 123 = .ok (.iadd, 1) := by decide +kernel
theorem dX2_add_124 : decode cX2_add 124 = .ok (.putfield 9, 3) := by decide +kernel
theorem dX2_add_127 : decode cX2_add 127 = .ok (.return_, 1) := by decide +kernel
set_option maxRecDepth 20000 in
theorem ggX2_has_X3_isBelow : GoodIn wsX2_has wsX3_isBelow := goodIn_r _ [4] (by decide +kernel) (by decide +kernel)
set_option maxRecDepth 20000 in
theorem gX2_has_X3_isBelow_n25 : GoodIn wsX2_has (wsX3_isBelow) := ggX2_has_X3_isBelow
theorem dX2_has_0 : decode cX2_has 0 = .ok (.iload_n 1, 1) := by decide +kernel
theorem dX2_has_1 : decode cX2_has 1 = .ok (.aload_n 0, 1) := by decide +kernel
theorem dX2_has_2 : decode cX2_has 2 = .ok (.getfield 9, 3) := by decide +kernel
theorem dX2_has_5 : decode cX2_has 5 = .ok (.invokestatic 25, 3) := by decide +kernel
theorem dX2_has_8 : decode cX2_has 8 = .ok (.ireturn, 1) := by decide +kernel
set_option maxRecDepth 20000 in
theorem ggX2_begin_X2_has : GoodIn wsX2_begin wsX2_has := goodIn_r _ [6, 7, 8, 9, 10, 11, 12, 13, 14] (by decide +kernel) (by decide +kernel)
set_option maxRecDepth 20000 in
theorem gX2_begin_X2_has : GoodIn wsX2_begin (wsV RX2 29 RX2 yX2_has wsX2_has) := goodIn_app (goodIn_of _ (by decide +kernel)) ggX2_begin_X2_has
theorem dX2_begin_0 : decode cX2_begin 0 = .ok (.aload_n 0, 1) := by decide +kernel
theorem dX2_begin_1 : decode cX2_begin 1 = .ok (.iload_n 1, 1) := by decide +kernel
theorem dX2_begin_2 : decode cX2_begin 2 = .ok (.invokevirtual 29, 3) := by decide +kernel
theorem dX2_begin_5 : decode cX2_begin 5 = .ok (.ifCond .eq 12, 3) := by decide +kernel
theorem dX2_begin_8 : decode cX2_begin 8 = .ok (.aload_n 0, 1) := by decide +kernel
theorem dX2_begin_9 : decode cX2_begin 9 = .ok (.getfield 19, 3) := by decide +kernel
theorem dX2_begin_12 : decode cX2_begin 12 = .ok (.iload_n 1, 1) := by decide +kernel
theorem dX2_begin_13 : decode cX2_begin 13 = .ok (.iaload, 1) := by decide +kernel
theorem dX2_begin_14 : decode cX2_begin 14 = .ok (.goto 5, 3) := by decide +kernel
theorem dX2_begin_17 : decode cX2_begin 17 = .ok (.bipush (-6), 2) := by decide +kernel
theorem dX2_begin_19 : decode cX2_begin 19 = .ok (.ireturn, 1) := by decide +kernel
set_option maxRecDepth 20000 in
theorem ggX2_ticks_X2_has : GoodIn wsX2_ticks wsX2_has := goodIn_r _ [7, 8, 9, 10, 11, 12, 13, 14, 15] (by decide +kernel) (by decide +kernel)
set_option maxRecDepth 20000 in
theorem gX2_ticks_X2_has : GoodIn wsX2_ticks (wsV RX2 29 RX2 yX2_has wsX2_has) := goodIn_app (goodIn_of _ (by decide +kernel)) ggX2_ticks_X2_has
theorem dX2_ticks_0 : decode cX2_ticks 0 = .ok (.aload_n 0, 1) := by decide +kernel
theorem dX2_ticks_1 : decode cX2_ticks 1 = .ok (.iload_n 1, 1) := by decide +kernel
theorem dX2_ticks_2 : decode cX2_ticks 2 = .ok (.invokevirtual 29, 3) := by decide +kernel
theorem dX2_ticks_5 : decode cX2_ticks 5 = .ok (.ifCond .eq 19, 3) := by decide +kernel
theorem dX2_ticks_8 : decode cX2_ticks 8 = .ok (.aload_n 0, 1) := by decide +kernel
theorem dX2_ticks_9 : decode cX2_ticks 9 = .ok (.getfield 22, 3) := by decide +kernel
theorem dX2_ticks_12 : decode cX2_ticks 12 = .ok (.iload_n 1, 1) := by decide +kernel
theorem dX2_ticks_13 : decode cX2_ticks 13 = .ok (.iaload, 1) := by decide +kernel
theorem dX2_ticks_14 : decode cX2_ticks 14 = .ok (.aload_n 0, 1) := by decide +kernel
theorem dX2_ticks_15 : decode cX2_ticks 15 = .ok (.getfield 19, 3) := by decide +kernel
theorem dX2_ticks_18 : decode cX2_ticks 18 = .ok (.iload_n 1, 1) := by decide +kernel
theorem dX2_ticks_19 : decode cX2_ticks 19 = .ok (.iaload, 1) := by decide +kernel
theorem dX2_ticks_20 : decode cX2_ticks 20 = .ok (.isub, 1) := by decide +kernel
theorem dX2_ticks_21 : decode cX2_ticks 21 = .ok (.goto 5, 3) := by decide +kernel
theorem dX2_ticks_24 : decode cX2_ticks 24 = .ok (.bipush (-6), 2) := by decide +kernel
theorem dX2_ticks_26 : decode cX2_ticks 26 = .ok (.ireturn, 1) := by decide +kernel
set_option maxRecDepth 20000 in
theorem ggX2_burstOf_X2_has : GoodIn wsX2_burstOf wsX2_has := goodIn_r _ [6, 7, 8, 9, 10, 11, 12, 13, 14] (by decide +kernel) (by decide +kernel)
set_option maxRecDepth 20000 in
theorem gX2_burstOf_X2_has : GoodIn wsX2_burstOf (wsV RX2 29 RX2 yX2_has wsX2_has) := goodIn_app (goodIn_of _ (by decide +kernel)) ggX2_burstOf_X2_has
theorem dX2_burstOf_0 : decode cX2_burstOf 0 = .ok (.aload_n 0, 1) := by decide +kernel
theorem dX2_burstOf_1 : decode cX2_burstOf 1 = .ok (.iload_n 1, 1) := by decide +kernel
theorem dX2_burstOf_2 : decode cX2_burstOf 2 = .ok (.invokevirtual 29, 3) := by decide +kernel
theorem dX2_burstOf_5 : decode cX2_burstOf 5 = .ok (.ifCond .eq 12, 3) := by decide +kernel
theorem dX2_burstOf_8 : decode cX2_burstOf 8 = .ok (.aload_n 0, 1) := by decide +kernel
theorem dX2_burstOf_9 : decode cX2_burstOf 9 = .ok (.getfield 15, 3) := by decide +kernel
theorem dX2_burstOf_12 : decode cX2_burstOf 12 = .ok (.iload_n 1, 1) := by decide +kernel
theorem dX2_burstOf_13 : decode cX2_burstOf 13 = .ok (.iaload, 1) := by decide +kernel
theorem dX2_burstOf_14 : decode cX2_burstOf 14 = .ok (.goto 5, 3) := by decide +kernel
theorem dX2_burstOf_17 : decode cX2_burstOf 17 = .ok (.bipush (-6), 2) := by decide +kernel
theorem dX2_burstOf_19 : decode cX2_burstOf 19 = .ok (.ireturn, 1) := by decide +kernel
set_option maxRecDepth 20000 in
theorem ggX2_lastEnd_X2_has : GoodIn wsX2_lastEnd wsX2_has := goodIn_r _ [7, 1, 8, 9, 10, 11, 12, 13, 14] (by decide +kernel) (by decide +kernel)
set_option maxRecDepth 20000 in
theorem gX2_lastEnd_X2_has : GoodIn wsX2_lastEnd (wsV RX2 29 RX2 yX2_has wsX2_has) := goodIn_app (goodIn_of _ (by decide +kernel)) ggX2_lastEnd_X2_has
theorem dX2_lastEnd_0 : decode cX2_lastEnd 0 = .ok (.aload_n 0, 1) := by decide +kernel
theorem dX2_lastEnd_1 : decode cX2_lastEnd 1 = .ok (.aload_n 0, 1) := by decide +kernel
theorem dX2_lastEnd_2 : decode cX2_lastEnd 2 = .ok (.getfield 9, 3) := by decide +kernel
theorem dX2_lastEnd_5 : decode cX2_lastEnd 5 = .ok (.iconst 1, 1) := by decide +kernel
theorem dX2_lastEnd_6 : decode cX2_lastEnd 6 = .ok (.isub, 1) := by decide +kernel
theorem dX2_lastEnd_7 : decode cX2_lastEnd 7 = .ok (.invokevirtual 29, 3) := by decide +kernel
theorem dX2_lastEnd_10 : decode cX2_lastEnd 10 = .ok (.ifCond .eq 17, 3) := by decide +kernel
theorem dX2_lastEnd_13 : decode cX2_lastEnd 13 = .ok (.aload_n 0, 1) := by decide +kernel
theorem dX2_lastEnd_14 : decode cX2_lastEnd 14 = .ok (.getfield 22, 3) := by decide +kernel
theorem dX2_lastEnd_17 : decode cX2_lastEnd 17 = .ok (.aload_n 0, 1) := by decide +kernel
theorem dX2_lastEnd_18 : decode cX2_lastEnd 18 = .ok (.getfield 9, 3) := by decide +kernel
theorem dX2_lastEnd_21 : decode cX2_lastEnd 21 = .ok (.iconst 1, 1) := by decide +kernel
theorem dX2_lastEnd_22 : decode cX2_lastEnd 22 = .ok (.isub, 1) := by decide +kernel
theorem dX2_lastEnd_23 : decode cX2_lastEnd 23 = .ok (.iaload, 1) := by decide +kernel
theorem dX2_lastEnd_24 : decode cX2_lastEnd 24 = .ok (.goto 5, 3) := by decide +kernel
theorem dX2_lastEnd_27 : decode cX2_lastEnd 27 = .ok (.bipush (-6), 2) := by decide +kernel
theorem dX2_lastEnd_29 : decode cX2_lastEnd 29 = .ok (.ireturn, 1) := by decide +kernel
theorem dX2_lastEndUpTo_0 : decode cX2_lastEndUpTo 0 = .ok (.iload_n 2, 1) := by decide +kernel
theorem dX2_lastEndUpTo_1 : decode cX2_lastEndUpTo 1 = .ok (.istore_n 3, 1) := by decide +kernel
theorem dX2_lastEndUpTo_2 : decode cX2_lastEndUpTo 2 = .ok (.iconst 0, 1) := by decide +kernel
theorem dX2_lastEndUpTo_3 : decode cX2_lastEndUpTo 3 = .ok (.istore 4, 2) := by decide +kernel
theorem dX2_lastEndUpTo_5 : decode cX2_lastEndUpTo 5 = .ok (.iload 4, 2) := by decide +kernel
theorem dX2_lastEndUpTo_7 : decode cX2_lastEndUpTo 7 = .ok (.aload_n 0, 1) := by decide +kernel
theorem dX2_lastEndUpTo_8 : decode cX2_lastEndUpTo 8 = .ok (.getfield 9, 3) := by decide +kernel
theorem dX2_lastEndUpTo_11 : decode cX2_lastEndUpTo 11 = .ok (.if_icmp .ge 32, 3) := by decide +kernel
theorem dX2_lastEndUpTo_14 : decode cX2_lastEndUpTo 14 = .ok (.aload_n 0, 1) := by decide +kernel
theorem dX2_lastEndUpTo_15 : decode cX2_lastEndUpTo 15 = .ok (.getfield 22, 3) := by decide +kernel
theorem dX2_lastEndUpTo_18 : decode cX2_lastEndUpTo 18 = .ok (.iload 4, 2) := by decide +kernel
theorem dX2_lastEndUpTo_20 : decode cX2_lastEndUpTo 20 = .ok (.iaload, 1) := by decide +kernel
theorem dX2_lastEndUpTo_21 : decode cX2_lastEndUpTo 21 = .ok (.iload_n 1, 1) := by decide +kernel
theorem dX2_lastEndUpTo_22 : decode cX2_lastEndUpTo 22 = .ok (.if_icmp .gt 15, 3) := by decide +kernel
theorem dX2_lastEndUpTo_25 : decode cX2_lastEndUpTo 25 = .ok (.iload_n 3, 1) := by decide +kernel
theorem dX2_lastEndUpTo_26 : decode cX2_lastEndUpTo 26 = .ok (.aload_n 0, 1) := by decide +kernel
theorem dX2_lastEndUpTo_27 : decode cX2_lastEndUpTo 27 = .ok (.getfield 22, 3) := by decide +kernel
theorem dX2_lastEndUpTo_30 : decode cX2_lastEndUpTo 30 = .ok (.iload 4, 2) := by decide +kernel
theorem dX2_lastEndUpTo_32 : decode cX2_lastEndUpTo 32 = .ok (.iaload, 1) := by decide +kernel
theorem dX2_lastEndUpTo_33 : decode cX2_lastEndUpTo 33 = .ok (.invokestatic 33, 3) := by decide +kernel
theorem dX2_lastEndUpTo_36 : decode cX2_lastEndUpTo 36 = .ok (.istore_n 3, 1) := by decide +kernel
theorem dX2_lastEndUpTo_37 : decode cX2_lastEndUpTo 37 = .ok (.iinc 4 1, 3) := by decide +kernel
theorem dX2_lastEndUpTo_40 : decode cX2_lastEndUpTo 40 = .ok (.goto (-35), 3) := by decide +kernel
theorem dX2_lastEndUpTo_43 : decode cX2_lastEndUpTo 43 = .ok (.iload_n 3, 1) := by decide +kernel
theorem dX2_lastEndUpTo_44 : decode cX2_lastEndUpTo 44 = .ok (.ireturn, 1) := by decide +kernel
theorem dX2_room_0 : decode cX2_room 0 = .ok (.iload_n 2, 1) := by decide +kernel
theorem dX2_room_1 : decode cX2_room 1 = .ok (.istore 4, 2) := by decide +kernel
theorem dX2_room_3 : decode cX2_room 3 = .ok (.iconst 0, 1) := by decide +kernel
theorem dX2_room_4 : decode cX2_room 4 = .ok (.istore 5, 2) := by decide +kernel
theorem dX2_room_6 : decode cX2_room 6 = .ok (.iload 5, 2) := by decide +kernel
theorem dX2_room_8 : decode cX2_room 8 = .ok (.aload_n 0, 1) := by decide +kernel
theorem dX2_room_9 : decode cX2_room 9 = .ok (.getfield 9, 3) := by decide +kernel
theorem dX2_room_12 : decode cX2_room 12 = .ok (.if_icmp .ge 42, 3) := by decide +kernel
theorem dX2_room_15 : decode cX2_room 15 = .ok (.aload_n 0, 1) := by decide +kernel
theorem dX2_room_16 : decode cX2_room 16 = .ok (.getfield 22, 3) := by decide +kernel
theorem dX2_room_19 : decode cX2_room 19 = .ok (.iload 5, 2) := by decide +kernel
theorem dX2_room_21 : decode cX2_room 21 = .ok (.iaload, 1) := by decide +kernel
theorem dX2_room_22 : decode cX2_room 22 = .ok (.iload_n 1, 1) := by decide +kernel
theorem dX2_room_23 : decode cX2_room 23 = .ok (.if_icmp .le 25, 3) := by decide +kernel
theorem dX2_room_26 : decode cX2_room 26 = .ok (.iload 4, 2) := by decide +kernel
theorem dX2_room_28 : decode cX2_room 28 = .ok (.iload_n 3, 1) := by decide +kernel
theorem dX2_room_29 : decode cX2_room 29 = .ok (.ifCond .eq 13, 3) := by decide +kernel
theorem dX2_room_32 : decode cX2_room 32 = .ok (.aload_n 0, 1) := by decide +kernel
theorem dX2_room_33 : decode cX2_room 33 = .ok (.getfield 19, 3) := by decide +kernel
theorem dX2_room_36 : decode cX2_room 36 = .ok (.iload 5, 2) := by decide +kernel
theorem dX2_room_38 : decode cX2_room 38 = .ok (.iaload, 1) := by decide +kernel
theorem dX2_room_39 : decode cX2_room 39 = .ok (.goto 4, 3) := by decide +kernel
theorem dX2_room_42 : decode cX2_room 42 = .ok (.iload_n 1, 1) := by decide +kernel
theorem dX2_room_43 : decode cX2_room 43 = .ok (.invokestatic 39, 3) := by decide +kernel
theorem dX2_room_46 : decode cX2_room 46 = .ok (.istore 4, 2) := by decide +kernel
theorem dX2_room_48 : decode cX2_room 48 = .ok (.iinc 5 1, 3) := by decide +kernel
theorem dX2_room_51 : decode cX2_room 51 = .ok (.goto (-45), 3) := by decide +kernel
theorem dX2_room_54 : decode cX2_room 54 = .ok (.iconst 0, 1) := by decide +kernel
theorem dX2_room_55 : decode cX2_room 55 = .ok (.iload 4, 2) := by decide +kernel
theorem dX2_room_57 : decode cX2_room 57 = .ok (.iload_n 1, 1) := by decide +kernel
theorem dX2_room_58 : decode cX2_room 58 = .ok (.isub, 1) := by decide +kernel
theorem dX2_room_59 : decode cX2_room 59 = .ok (.invokestatic 33, 3) := by decide +kernel
theorem dX2_room_62 : decode cX2_room 62 = .ok (.ireturn, 1) := by decide +kernel
set_option maxRecDepth 20000 in
theorem ggX2_isFree_X2_room : GoodIn wsX2_isFree wsX2_room := goodIn_r _ [5, 6, 7, 8, 9, 10, 11, 12, 13, 14, 15, 16, 17, 18, 19] (by decide +kernel) (by decide +kernel)
set_option maxRecDepth 20000 in
theorem gX2_isFree_X2_room : GoodIn wsX2_isFree (wsV RX2 42 RX2 yX2_room wsX2_room) := goodIn_app (goodIn_of _ (by decide +kernel)) ggX2_isFree_X2_room
theorem dX2_isFree_0 : decode cX2_isFree 0 = .ok (.aload_n 0, 1) := by decide +kernel
theorem dX2_isFree_1 : decode cX2_isFree 1 = .ok (.iload_n 1, 1) := by decide +kernel
theorem dX2_isFree_2 : decode cX2_isFree 2 = .ok (.iload_n 2, 1) := by decide +kernel
theorem dX2_isFree_3 : decode cX2_isFree 3 = .ok (.iload_n 3, 1) := by decide +kernel
theorem dX2_isFree_4 : decode cX2_isFree 4 = .ok (.invokevirtual 42, 3) := by decide +kernel
theorem dX2_isFree_7 : decode cX2_isFree 7 = .ok (.iload_n 2, 1) := by decide +kernel
theorem dX2_isFree_8 : decode cX2_isFree 8 = .ok (.iload_n 1, 1) := by decide +kernel
theorem dX2_isFree_9 : decode cX2_isFree 9 = .ok (.isub, 1) := by decide +kernel
theorem dX2_isFree_10 : decode cX2_isFree 10 = .ok (.if_icmp .ne 7, 3) := by decide +kernel
theorem dX2_isFree_13 : decode cX2_isFree 13 = .ok (.iconst 1, 1) := by decide +kernel
theorem dX2_isFree_14 : decode cX2_isFree 14 = .ok (.goto 4, 3) := by decide +kernel
theorem dX2_isFree_17 : decode cX2_isFree 17 = .ok (.iconst 0, 1) := by decide +kernel
theorem dX2_isFree_18 : decode cX2_isFree 18 = .ok (.ireturn, 1) := by decide +kernel
set_option maxRecDepth 20000 in
theorem ggX2_pieceBegin_X2_room : GoodIn wsX2_pieceBegin wsX2_room := goodIn_r _ [7, 1, 2, 8, 9, 10, 11, 12, 13, 14, 15, 16, 17, 18, 19] (by decide +kernel) (by decide +kernel)
set_option maxRecDepth 20000 in
theorem gX2_pieceBegin_X2_room : GoodIn wsX2_pieceBegin (wsV RX2 42 RX2 yX2_room wsX2_room) := goodIn_app (goodIn_of _ (by decide +kernel)) ggX2_pieceBegin_X2_room
theorem dX2_pieceBegin_0 : decode cX2_pieceBegin 0 = .ok (.iload_n 1, 1) := by decide +kernel
theorem dX2_pieceBegin_1 : decode cX2_pieceBegin 1 = .ok (.istore 4, 2) := by decide +kernel
theorem dX2_pieceBegin_3 : decode cX2_pieceBegin 3 = .ok (.aload_n 0, 1) := by decide +kernel
theorem dX2_pieceBegin_4 : decode cX2_pieceBegin 4 = .ok (.iload_n 1, 1) := by decide +kernel
theorem dX2_pieceBegin_5 : decode cX2_pieceBegin 5 = .ok (.iload_n 2, 1) := by decide +kernel
theorem dX2_pieceBegin_6 : decode cX2_pieceBegin 6 = .ok (.iload_n 3, 1) := by decide +kernel
theorem dX2_pieceBegin_7 : decode cX2_pieceBegin 7 = .ok (.invokevirtual 42, 3) := by decide +kernel
theorem dX2_pieceBegin_10 : decode cX2_pieceBegin 10 = .ok (.istore 5, 2) := by decide +kernel
theorem dX2_pieceBegin_12 : decode cX2_pieceBegin 12 = .ok (.iconst 0, 1) := by decide +kernel
theorem dX2_pieceBegin_13 : decode cX2_pieceBegin 13 = .ok (.istore 6, 2) := by decide +kernel
theorem dX2_pieceBegin_15 : decode cX2_pieceBegin 15 = .ok (.iload 6, 2) := by decide +kernel
theorem dX2_pieceBegin_17 : decode cX2_pieceBegin 17 = .ok (.aload_n 0, 1) := by decide +kernel
theorem dX2_pieceBegin_18 : decode cX2_pieceBegin 18 = .ok (.getfield 9, 3) := by decide +kernel
theorem dX2_pieceBegin_21 : decode cX2_pieceBegin 21 = .ok (.if_icmp .ge 59, 3) := by decide +kernel
theorem dX2_pieceBegin_24 : decode cX2_pieceBegin 24 = .ok (.aload_n 0, 1) := by decide +kernel
theorem dX2_pieceBegin_25 : decode cX2_pieceBegin 25 = .ok (.getfield 22, 3) := by decide +kernel
theorem dX2_pieceBegin_28 : decode cX2_pieceBegin 28 = .ok (.iload 6, 2) := by decide +kernel
theorem dX2_pieceBegin_30 : decode cX2_pieceBegin 30 = .ok (.iaload, 1) := by decide +kernel
theorem dX2_pieceBegin_31 : decode cX2_pieceBegin 31 = .ok (.iload_n 1, 1) := by decide +kernel
theorem dX2_pieceBegin_32 : decode cX2_pieceBegin 32 = .ok (.if_icmp .le 19, 3) := by decide +kernel
theorem dX2_pieceBegin_35 : decode cX2_pieceBegin 35 = .ok (.aload_n 0, 1) := by decide +kernel
theorem dX2_pieceBegin_36 : decode cX2_pieceBegin 36 = .ok (.aload_n 0, 1) := by decide +kernel
theorem dX2_pieceBegin_37 : decode cX2_pieceBegin 37 = .ok (.getfield 22, 3) := by decide +kernel
theorem dX2_pieceBegin_40 : decode cX2_pieceBegin 40 = .ok (.iload 6, 2) := by decide +kernel
theorem dX2_pieceBegin_42 : decode cX2_pieceBegin 42 = .ok (.iaload, 1) := by decide +kernel
theorem dX2_pieceBegin_43 : decode cX2_pieceBegin 43 = .ok (.iload_n 2, 1) := by decide +kernel
theorem dX2_pieceBegin_44 : decode cX2_pieceBegin 44 = .ok (.iload_n 3, 1) := by decide +kernel
theorem dX2_pieceBegin_45 : decode cX2_pieceBegin 45 = .ok (.invokevirtual 42, 3) := by decide +kernel
theorem dX2_pieceBegin_48 : decode cX2_pieceBegin 48 = .ok (.goto 4, 3) := by decide +kernel
theorem dX2_pieceBegin_51 : decode cX2_pieceBegin 51 = .ok (.iconst 0, 1) := by decide +kernel
theorem dX2_pieceBegin_52 : decode cX2_pieceBegin 52 = .ok (.istore 7, 2) := by decide +kernel
theorem dX2_pieceBegin_54 : decode cX2_pieceBegin 54 = .ok (.iload 7, 2) := by decide +kernel
theorem dX2_pieceBegin_56 : decode cX2_pieceBegin 56 = .ok (.iload 5, 2) := by decide +kernel
theorem dX2_pieceBegin_58 : decode cX2_pieceBegin 58 = .ok (.if_icmp .le 16, 3) := by decide +kernel
theorem dX2_pieceBegin_61 : decode cX2_pieceBegin 61 = .ok (.aload_n 0, 1) := by decide +kernel
theorem dX2_pieceBegin_62 : decode cX2_pieceBegin 62 = .ok (.getfield 22, 3) := by decide +kernel
theorem dX2_pieceBegin_65 : decode cX2_pieceBegin 65 = .ok (.iload 6, 2) := by decide +kernel
theorem dX2_pieceBegin_67 : decode cX2_pieceBegin 67 = .ok (.iaload, 1) := by decide +kernel
theorem dX2_pieceBegin_68 : decode cX2_pieceBegin 68 = .ok (.istore 4, 2) := by decide +kernel
theorem dX2_pieceBegin_70 : decode cX2_pieceBegin 70 = .ok (.iload 7, 2) := by decide +kernel
theorem dX2_pieceBegin_72 : decode cX2_pieceBegin 72 = .ok (.istore 5, 2) := by decide +kernel
theorem dX2_pieceBegin_74 : decode cX2_pieceBegin 74 = .ok (.iinc 6 1, 3) := by decide +kernel
theorem dX2_pieceBegin_77 : decode cX2_pieceBegin 77 = .ok (.goto (-62), 3) := by decide +kernel
theorem dX2_pieceBegin_80 : decode cX2_pieceBegin 80 = .ok (.iload 4, 2) := by decide +kernel
theorem dX2_pieceBegin_82 : decode cX2_pieceBegin 82 = .ok (.ireturn, 1) := by decide +kernel
theorem dX2_bookedTicks_0 : decode cX2_bookedTicks 0 = .ok (.iconst 0, 1) := by decide +kernel
theorem dX2_bookedTicks_1 : decode cX2_bookedTicks 1 = .ok (.istore_n 3, 1) := by decide +kernel
theorem dX2_bookedTicks_2 : decode cX2_bookedTicks 2 = .ok (.iconst 0, 1) := by decide +kernel
theorem dX2_bookedTicks_3 : decode cX2_bookedTicks 3 = .ok (.istore 4, 2) := by decide +kernel
theorem dX2_bookedTicks_5 : decode cX2_bookedTicks 5 = .ok (.iload 4, 2) := by decide +kernel
theorem dX2_bookedTicks_7 : decode cX2_bookedTicks 7 = .ok (.aload_n 0, 1) := by decide +kernel
theorem dX2_bookedTicks_8 : decode cX2_bookedTicks 8 = .ok (.getfield 9, 3) := by decide +kernel
theorem dX2_bookedTicks_11 : decode cX2_bookedTicks 11 = .ok (.if_icmp .ge 39, 3) := by decide +kernel
theorem dX2_bookedTicks_14 : decode cX2_bookedTicks 14 = .ok (.iload_n 3, 1) := by decide +kernel
theorem dX2_bookedTicks_15 : decode cX2_bookedTicks 15 = .ok (.iconst 0, 1) := by decide +kernel
theorem dX2_bookedTicks_16 : decode cX2_bookedTicks 16 = .ok (.iload_n 2, 1) := by decide +kernel
theorem dX2_bookedTicks_17 : decode cX2_bookedTicks 17 = .ok (.aload_n 0, 1) := by decide +kernel
theorem dX2_bookedTicks_18 : decode cX2_bookedTicks 18 = .ok (.getfield 22, 3) := by decide +kernel
theorem dX2_bookedTicks_21 : decode cX2_bookedTicks 21 = .ok (.iload 4, 2) := by decide +kernel
theorem dX2_bookedTicks_23 : decode cX2_bookedTicks 23 = .ok (.iaload, 1) := by decide +kernel
theorem dX2_bookedTicks_24 : decode cX2_bookedTicks 24 = .ok (.invokestatic 39, 3) := by decide +kernel
theorem dX2_bookedTicks_27 : decode cX2_bookedTicks 27 = .ok (.iload_n 1, 1) := by decide +kernel
theorem dX2_bookedTicks_28 : decode cX2_bookedTicks 28 = .ok (.aload_n 0, 1) := by decide +kernel
theorem dX2_bookedTicks_29 : decode cX2_bookedTicks 29 = .ok (.getfield 19, 3) := by decide +kernel
theorem dX2_bookedTicks_32 : decode cX2_bookedTicks 32 = .ok (.iload 4, 2) := by decide +kernel
theorem dX2_bookedTicks_34 : decode cX2_bookedTicks 34 = .ok (.iaload, 1) := by decide +kernel
theorem dX2_bookedTicks_35 : decode cX2_bookedTicks 35 = .ok (.invokestatic 33, 3) := by decide +kernel
theorem dX2_bookedTicks_38 : decode cX2_bookedTicks 38 = .ok (.isub, 1) := by decide +kernel
theorem dX2_bookedTicks_39 : decode cX2_bookedTicks 39 = .ok (.invokestatic 33, 3) := by decide +kernel
theorem dX2_bookedTicks_42 : decode cX2_bookedTicks 42 = .ok (.iadd, 1) := by decide +kernel
theorem dX2_bookedTicks_43 : decode cX2_bookedTicks 43 = .ok (.istore_n 3, 1) := by decide +kernel
theorem dX2_bookedTicks_44 : decode cX2_bookedTicks 44 = .ok (.iinc 4 1, 3) := by decide +kernel
theorem dX2_bookedTicks_47 : decode cX2_bookedTicks 47 = .ok (.goto (-42), 3) := by decide +kernel
theorem dX2_bookedTicks_50 : decode cX2_bookedTicks 50 = .ok (.iload_n 3, 1) := by decide +kernel
theorem dX2_bookedTicks_51 : decode cX2_bookedTicks 51 = .ok (.ireturn, 1) := by decide +kernel
theorem dX2_firstFree_0 : decode cX2_firstFree 0 = .ok (.iload_n 1, 1) := by decide +kernel
theorem dX2_firstFree_1 : decode cX2_firstFree 1 = .ok (.istore_n 3, 1) := by decide +kernel
theorem dX2_firstFree_2 : decode cX2_firstFree 2 = .ok (.iconst 0, 1) := by decide +kernel
theorem dX2_firstFree_3 : decode cX2_firstFree 3 = .ok (.istore 4, 2) := by decide +kernel
theorem dX2_firstFree_5 : decode cX2_firstFree 5 = .ok (.iload 4, 2) := by decide +kernel
theorem dX2_firstFree_7 : decode cX2_firstFree 7 = .ok (.aload_n 0, 1) := by decide +kernel
theorem dX2_firstFree_8 : decode cX2_firstFree 8 = .ok (.getfield 9, 3) := by decide +kernel
theorem dX2_firstFree_11 : decode cX2_firstFree 11 = .ok (.if_icmp .ge 41, 3) := by decide +kernel
theorem dX2_firstFree_14 : decode cX2_firstFree 14 = .ok (.aload_n 0, 1) := by decide +kernel
theorem dX2_firstFree_15 : decode cX2_firstFree 15 = .ok (.getfield 19, 3) := by decide +kernel
theorem dX2_firstFree_18 : decode cX2_firstFree 18 = .ok (.iload 4, 2) := by decide +kernel
theorem dX2_firstFree_20 : decode cX2_firstFree 20 = .ok (.iaload, 1) := by decide +kernel
theorem dX2_firstFree_21 : decode cX2_firstFree 21 = .ok (.iload_n 3, 1) := by decide +kernel
theorem dX2_firstFree_22 : decode cX2_firstFree 22 = .ok (.iload_n 2, 1) := by decide +kernel
theorem dX2_firstFree_23 : decode cX2_firstFree 23 = .ok (.iadd, 1) := by decide +kernel
theorem dX2_firstFree_24 : decode cX2_firstFree 24 = .ok (.if_icmp .ge 22, 3) := by decide +kernel
theorem dX2_firstFree_27 : decode cX2_firstFree 27 = .ok (.aload_n 0, 1) := by decide +kernel
theorem dX2_firstFree_28 : decode cX2_firstFree 28 = .ok (.getfield 22, 3) := by decide +kernel
theorem dX2_firstFree_31 : decode cX2_firstFree 31 = .ok (.iload 4, 2) := by decide +kernel
theorem dX2_firstFree_33 : decode cX2_firstFree 33 = .ok (.iaload, 1) := by decide +kernel
theorem dX2_firstFree_34 : decode cX2_firstFree 34 = .ok (.iload_n 3, 1) := by decide +kernel
theorem dX2_firstFree_35 : decode cX2_firstFree 35 = .ok (.if_icmp .le 11, 3) := by decide +kernel
theorem dX2_firstFree_38 : decode cX2_firstFree 38 = .ok (.aload_n 0, 1) := by decide +kernel
theorem dX2_firstFree_39 : decode cX2_firstFree 39 = .ok (.getfield 22, 3) := by decide +kernel
theorem dX2_firstFree_42 : decode cX2_firstFree 42 = .ok (.iload 4, 2) := by decide +kernel
theorem dX2_firstFree_44 : decode cX2_firstFree 44 = .ok (.iaload, 1) := by decide +kernel
theorem dX2_firstFree_45 : decode cX2_firstFree 45 = .ok (.istore_n 3, 1) := by decide +kernel
theorem dX2_firstFree_46 : decode cX2_firstFree 46 = .ok (.iinc 4 1, 3) := by decide +kernel
theorem dX2_firstFree_49 : decode cX2_firstFree 49 = .ok (.goto (-44), 3) := by decide +kernel
theorem dX2_firstFree_52 : decode cX2_firstFree 52 = .ok (.iload_n 3, 1) := by decide +kernel
theorem dX2_firstFree_53 : decode cX2_firstFree 53 = .ok (.ireturn, 1) := by decide +kernel
set_option maxRecDepth 20000 in
theorem ggX2_voidBefore_X2_has : GoodIn wsX2_voidBefore wsX2_has := goodIn_r _ [10, 11, 12, 13, 14, 15, 16, 17, 18] (by decide +kernel) (by decide +kernel)
set_option maxRecDepth 20000 in
theorem gX2_voidBefore_X2_has : GoodIn wsX2_voidBefore (wsV RX2 29 RX2 yX2_has wsX2_has) := goodIn_app (goodIn_of _ (by decide +kernel)) ggX2_voidBefore_X2_has
theorem dX2_voidBefore_0 : decode cX2_voidBefore 0 = .ok (.aload_n 0, 1) := by decide +kernel
theorem dX2_voidBefore_1 : decode cX2_voidBefore 1 = .ok (.iload_n 1, 1) := by decide +kernel
theorem dX2_voidBefore_2 : decode cX2_voidBefore 2 = .ok (.iconst 1, 1) := by decide +kernel
theorem dX2_voidBefore_3 : decode cX2_voidBefore 3 = .ok (.isub, 1) := by decide +kernel
theorem dX2_voidBefore_4 : decode cX2_voidBefore 4 = .ok (.invokevirtual 29, 3) := by decide +kernel
theorem dX2_voidBefore_7 : decode cX2_voidBefore 7 = .ok (.ifCond .eq 18, 3) := by decide +kernel
theorem dX2_voidBefore_10 : decode cX2_voidBefore 10 = .ok (.iload_n 2, 1) := by decide +kernel
theorem dX2_voidBefore_11 : decode cX2_voidBefore 11 = .ok (.aload_n 0, 1) := by decide +kernel
theorem dX2_voidBefore_12 : decode cX2_voidBefore 12 = .ok (.getfield 22, 3) := by decide +kernel
theorem dX2_voidBefore_15 : decode cX2_voidBefore 15 = .ok (.iload_n 1, 1) := by decide +kernel
theorem dX2_voidBefore_16 : decode cX2_voidBefore 16 = .ok (.iconst 1, 1) := by decide +kernel
theorem dX2_voidBefore_17 : decode cX2_voidBefore 17 = .ok (.isub, 1) := by decide +kernel
theorem dX2_voidBefore_18 : decode cX2_voidBefore 18 = .ok (.iaload, 1) := by decide +kernel
theorem dX2_voidBefore_19 : decode cX2_voidBefore 19 = .ok (.invokestatic 33, 3) := by decide +kernel
theorem dX2_voidBefore_22 : decode cX2_voidBefore 22 = .ok (.goto 4, 3) := by decide +kernel
theorem dX2_voidBefore_25 : decode cX2_voidBefore 25 = .ok (.iload_n 2, 1) := by decide +kernel
theorem dX2_voidBefore_26 : decode cX2_voidBefore 26 = .ok (.ireturn, 1) := by decide +kernel
set_option maxRecDepth 20000 in
theorem ggX2_closingOfVoid_X2_voidBefore : GoodIn wsX2_closingOfVoid wsX2_voidBefore := goodIn_r _ [7, 8, 9, 10, 11, 12, 13, 14, 15, 6, 16, 1, 17, 18, 19, 20, 21, 22, 23] (by decide +kernel) (by decide +kernel)
set_option maxRecDepth 20000 in
theorem gX2_closingOfVoid_X2_voidBefore : GoodIn wsX2_closingOfVoid (wsV RX2 46 RX2 yX2_voidBefore wsX2_voidBefore) := goodIn_app (goodIn_of _ (by decide +kernel)) ggX2_closingOfVoid_X2_voidBefore
theorem dX2_closingOfVoid_0 : decode cX2_closingOfVoid 0 = .ok (.iconst 0, 1) := by decide +kernel
theorem dX2_closingOfVoid_1 : decode cX2_closingOfVoid 1 = .ok (.istore_n 3, 1) := by decide +kernel
theorem dX2_closingOfVoid_2 : decode cX2_closingOfVoid 2 = .ok (.iconst 0, 1) := by decide +kernel
theorem dX2_closingOfVoid_3 : decode cX2_closingOfVoid 3 = .ok (.istore 4, 2) := by decide +kernel
theorem dX2_closingOfVoid_5 : decode cX2_closingOfVoid 5 = .ok (.iload 4, 2) := by decide +kernel
theorem dX2_closingOfVoid_7 : decode cX2_closingOfVoid 7 = .ok (.aload_n 0, 1) := by decide +kernel
theorem dX2_closingOfVoid_8 : decode cX2_closingOfVoid 8 = .ok (.getfield 9, 3) := by decide +kernel
theorem dX2_closingOfVoid_11 : decode cX2_closingOfVoid 11 = .ok (.if_icmp .ge 37, 3) := by decide +kernel
theorem dX2_closingOfVoid_14 : decode cX2_closingOfVoid 14 = .ok (.aload_n 0, 1) := by decide +kernel
theorem dX2_closingOfVoid_15 : decode cX2_closingOfVoid 15 = .ok (.getfield 19, 3) := by decide +kernel
theorem dX2_closingOfVoid_18 : decode cX2_closingOfVoid 18 = .ok (.iload 4, 2) := by decide +kernel
theorem dX2_closingOfVoid_20 : decode cX2_closingOfVoid 20 = .ok (.iaload, 1) := by decide +kernel
theorem dX2_closingOfVoid_21 : decode cX2_closingOfVoid 21 = .ok (.aload_n 0, 1) := by decide +kernel
theorem dX2_closingOfVoid_22 : decode cX2_closingOfVoid 22 = .ok (.iload 4, 2) := by decide +kernel
theorem dX2_closingOfVoid_24 : decode cX2_closingOfVoid 24 = .ok (.iload_n 2, 1) := by decide +kernel
theorem dX2_closingOfVoid_25 : decode cX2_closingOfVoid 25 = .ok (.invokevirtual 46, 3) := by decide +kernel
theorem dX2_closingOfVoid_28 : decode cX2_closingOfVoid 28 = .ok (.if_icmp .le 14, 3) := by decide +kernel
theorem dX2_closingOfVoid_31 : decode cX2_closingOfVoid 31 = .ok (.iload_n 3, 1) := by decide +kernel
theorem dX2_closingOfVoid_32 : decode cX2_closingOfVoid 32 = .ok (.iload_n 1, 1) := by decide +kernel
theorem dX2_closingOfVoid_33 : decode cX2_closingOfVoid 33 = .ok (.if_icmp .ne 6, 3) := by decide +kernel
theorem dX2_closingOfVoid_36 : decode cX2_closingOfVoid 36 = .ok (.iload 4, 2) := by decide +kernel
theorem dX2_closingOfVoid_38 : decode cX2_closingOfVoid 38 = .ok (.ireturn, 1) := by decide +kernel
theorem dX2_closingOfVoid_39 : decode cX2_closingOfVoid 39 = .ok (.iinc 3 1, 3) := by decide +kernel
theorem dX2_closingOfVoid_42 : decode cX2_closingOfVoid 42 = .ok (.iinc 4 1, 3) := by decide +kernel
theorem dX2_closingOfVoid_45 : decode cX2_closingOfVoid 45 = .ok (.goto (-40), 3) := by decide +kernel
theorem dX2_closingOfVoid_48 : decode cX2_closingOfVoid 48 = .ok (.bipush (-6), 2) := by decide +kernel
theorem dX2_closingOfVoid_50 : decode cX2_closingOfVoid 50 = .ok (.ireturn, 1) := by decide +kernel
end
section
set_option maxRecDepth 20000 in
theorem ggX3_init_X0_init : GoodIn wsX3_init wsX0_init := goodIn_r _ [20, 21, 2, 3, 22, 23, 24, 25, 26, 27, 28, 29, 30, 31, 32, 33, 55, 56, 57, 58, 59] (by decide +kernel) (by decide +kernel)
set_option maxRecDepth 20000 in
theorem gX3_init_X0_init_n9 : GoodIn wsX3_init (wsX0_init) := ggX3_init_X0_init
set_option maxRecDepth 20000 in
theorem ggX3_init_X2_init : GoodIn wsX3_init wsX2_init := goodIn_r _ [35, 36, 2, 3, 37, 31, 38, 39, 40, 66, 67, 68, 69] (by decide +kernel) (by decide +kernel)
set_option maxRecDepth 20000 in
theorem gX3_init_X2_init_n28 : GoodIn wsX3_init (wsX2_init) := ggX3_init_X2_init
set_option maxRecDepth 20000 in
theorem ggX3_init_X1_init : GoodIn wsX3_init wsX1_init := goodIn_r _ [42, 43, 2, 3, 44, 45, 46, 47, 48, 49, 50, 51, 52, 53, 54, 70, 71, 72, 73, 74, 75, 76, 77, 78, 79, 80] (by decide +kernel) (by decide +kernel)
set_option maxRecDepth 20000 in
theorem gX3_init_X1_init_n35 : GoodIn wsX3_init (wsX1_init) := ggX3_init_X1_init
theorem dX3_init_0 : decode cX3_init 0 = .ok (.aload_n 0, 1) := by decide +kernel
theorem dX3_init_1 : decode cX3_init 1 = .ok (.invokespecial 1, 3) := by decide +kernel
theorem dX3_init_4 : decode cX3_init 4 = .ok (.aload_n 0, 1) := by decide +kernel
theorem dX3_init_5 : decode cX3_init 5 = .ok (.new 7, 3) := by decide +kernel
theorem dX3_init_8 : decode cX3_init 8 = .ok (.dup, 1) := by decide +kernel
theorem dX3_init_9 : decode cX3_init 9 = .ok (.invokespecial 9, 3) := by decide +kernel
theorem dX3_init_12 : decode cX3_init 12 = .ok (.putfield 10, 3) := by decide +kernel
theorem dX3_init_15 : decode cX3_init 15 = .ok (.aload_n 0, 1) := by decide +kernel
theorem dX3_init_16 : decode cX3_init 16 = .ok (.new 7, 3) := by decide +kernel
theorem dX3_init_19 : decode cX3_init 19 = .ok (.dup, 1) := by decide +kernel
theorem dX3_init_20 : decode cX3_init 20 = .ok (.invokespecial 9, 3) := by decide +kernel
theorem dX3_init_23 : decode cX3_init 23 = .ok (.putfield 16, 3) := by decide +kernel
theorem dX3_init_26 : decode cX3_init 26 = .ok (.aload_n 0, 1) := by decide +kernel
theorem dX3_init_27 : decode cX3_init 27 = .ok (.new 7, 3) := by decide +kernel
theorem dX3_init_30 : decode cX3_init 30 = .ok (.dup, 1) := by decide +kernel
theorem dX3_init_31 : decode cX3_init 31 = .ok (.invokespecial 9, 3) := by decide +kernel
theorem dX3_init_34 : decode cX3_init 34 = .ok (.putfield 19, 3) := by decide +kernel
theorem dX3_init_37 : decode cX3_init 37 = .ok (.aload_n 0, 1) := by decide +kernel
theorem dX3_init_38 : decode cX3_init 38 = .ok (.iconst 0, 1) := by decide +kernel
theorem dX3_init_39 : decode cX3_init 39 = .ok (.putfield 22, 3) := by decide +kernel
theorem dX3_init_42 : decode cX3_init 42 = .ok (.aload_n 0, 1) := by decide +kernel
theorem dX3_init_43 : decode cX3_init 43 = .ok (.new 26, 3) := by decide +kernel
theorem dX3_init_46 : decode cX3_init 46 = .ok (.dup, 1) := by decide +kernel
theorem dX3_init_47 : decode cX3_init 47 = .ok (.invokespecial 28, 3) := by decide +kernel
theorem dX3_init_50 : decode cX3_init 50 = .ok (.putfield 29, 3) := by decide +kernel
theorem dX3_init_53 : decode cX3_init 53 = .ok (.aload_n 0, 1) := by decide +kernel
theorem dX3_init_54 : decode cX3_init 54 = .ok (.new 33, 3) := by decide +kernel
theorem dX3_init_57 : decode cX3_init 57 = .ok (.dup, 1) := by decide +kernel
theorem dX3_init_58 : decode cX3_init 58 = .ok (.aload_n 0, 1) := by decide +kernel
theorem dX3_init_59 : decode cX3_init 59 = .ok (.getfield 10, 3) := by decide +kernel
theorem dX3_init_62 : decode cX3_init 62 = .ok (.aload_n 0, 1) := by decide +kernel
theorem dX3_init_63 : decode cX3_init 63 = .ok (.getfield 29, 3) := by decide +kernel
theorem dX3_init_66 : decode cX3_init 66 = .ok (.invokespecial 35, 3) := by decide +kernel
theorem dX3_init_69 : decode cX3_init 69 = .ok (.putfield 38, 3) := by decide +kernel
theorem dX3_init_72 : decode cX3_init 72 = .ok (.return_, 1) := by decide +kernel
set_option maxRecDepth 20000 in
theorem ggX3_rule_X3_isBelow : GoodIn wsX3_rule wsX3_isBelow := goodIn_r _ [7] (by decide +kernel) (by decide +kernel)
set_option maxRecDepth 20000 in
theorem gX3_rule_X3_isBelow : GoodIn wsX3_rule (va_wsS RX3 42 yX3_isBelow wsX3_isBelow) := goodIn_app (goodIn_of _ (by decide +kernel)) ggX3_rule_X3_isBelow
theorem dX3_rule_0 : decode cX3_rule 0 = .ok (.iload_n 1, 1) := by decide +kernel
theorem dX3_rule_1 : decode cX3_rule 1 = .ok (.bipush 6, 2) := by decide +kernel
theorem dX3_rule_3 : decode cX3_rule 3 = .ok (.invokestatic 42, 3) := by decide +kernel
theorem dX3_rule_6 : decode cX3_rule 6 = .ok (.ifCond .eq 21, 3) := by decide +kernel
theorem dX3_rule_9 : decode cX3_rule 9 = .ok (.iload_n 2, 1) := by decide +kernel
theorem dX3_rule_10 : decode cX3_rule 10 = .ok (.getstatic 46, 3) := by decide +kernel
theorem dX3_rule_13 : decode cX3_rule 13 = .ok (.iload_n 1, 1) := by decide +kernel
theorem dX3_rule_14 : decode cX3_rule 14 = .ok (.iaload, 1) := by decide +kernel
theorem dX3_rule_15 : decode cX3_rule 15 = .ok (.if_icmp .lt 12, 3) := by decide +kernel
theorem dX3_rule_18 : decode cX3_rule 18 = .ok (.iload_n 2, 1) := by decide +kernel
theorem dX3_rule_19 : decode cX3_rule 19 = .ok (.getstatic 50, 3) := by decide +kernel
theorem dX3_rule_22 : decode cX3_rule 22 = .ok (.iload_n 1, 1) := by decide +kernel
theorem dX3_rule_23 : decode cX3_rule 23 = .ok (.iaload, 1) := by decide +kernel
theorem dX3_rule_24 : decode cX3_rule 24 = .ok (.if_icmp .le 6, 3) := by decide +kernel
theorem dX3_rule_27 : decode cX3_rule 27 = .ok (.bipush (-2), 2) := by decide +kernel
theorem dX3_rule_29 : decode cX3_rule 29 = .ok (.ireturn, 1) := by decide +kernel
theorem dX3_rule_30 : decode cX3_rule 30 = .ok (.aload_n 0, 1) := by decide +kernel
theorem dX3_rule_31 : decode cX3_rule 31 = .ok (.getfield 10, 3) := by decide +kernel
theorem dX3_rule_34 : decode cX3_rule 34 = .ok (.getfield 53, 3) := by decide +kernel
theorem dX3_rule_37 : decode cX3_rule 37 = .ok (.iload_n 1, 1) := by decide +kernel
theorem dX3_rule_38 : decode cX3_rule 38 = .ok (.iaload, 1) := by decide +kernel
theorem dX3_rule_39 : decode cX3_rule 39 = .ok (.istore_n 3, 1) := by decide +kernel
theorem dX3_rule_40 : decode cX3_rule 40 = .ok (.aload_n 0, 1) := by decide +kernel
theorem dX3_rule_41 : decode cX3_rule 41 = .ok (.getfield 10, 3) := by decide +kernel
theorem dX3_rule_44 : decode cX3_rule 44 = .ok (.getfield 53, 3) := by decide +kernel
theorem dX3_rule_47 : decode cX3_rule 47 = .ok (.iload_n 1, 1) := by decide +kernel
theorem dX3_rule_48 : decode cX3_rule 48 = .ok (.iload_n 2, 1) := by decide +kernel
theorem dX3_rule_49 : decode cX3_rule 49 = .ok (.iastore, 1) := by decide +kernel
theorem dX3_rule_50 : decode cX3_rule 50 = .ok (.iload_n 3, 1) := by decide +kernel
theorem dX3_rule_51 : decode cX3_rule 51 = .ok (.ireturn, 1) := by decide +kernel
set_option maxRecDepth 20000 in
theorem ggX3_line_X3_isBelow : GoodIn wsX3_line wsX3_isBelow := goodIn_r _ [6] (by decide +kernel) (by decide +kernel)
set_option maxRecDepth 20000 in
theorem gX3_line_X3_isBelow : GoodIn wsX3_line (va_wsS RX3 42 yX3_isBelow wsX3_isBelow) := goodIn_app (goodIn_of _ (by decide +kernel)) ggX3_line_X3_isBelow
set_option maxRecDepth 20000 in
theorem ggX3_line_X3_isWithin : GoodIn wsX3_line wsX3_isWithin := goodIn_r _ [9] (by decide +kernel) (by decide +kernel)
set_option maxRecDepth 20000 in
theorem gX3_line_X3_isWithin : GoodIn wsX3_line (va_wsS RX3 56 yX3_isWithin wsX3_isWithin) := goodIn_app (goodIn_of _ (by decide +kernel)) ggX3_line_X3_isWithin
set_option maxRecDepth 20000 in
theorem ggX3_line_X0_showLine : GoodIn wsX3_line wsX0_showLine := goodIn_r _ [13, 14, 15, 16, 17, 18, 19, 20, 21, 22, 11, 23, 24, 4, 5, 6, 25, 26, 27, 28, 29, 30, 44, 45, 46, 47, 48, 49, 50, 51, 52] (by decide +kernel) (by decide +kernel)
set_option maxRecDepth 20000 in
theorem gX3_line_X0_showLine_n60 : GoodIn wsX3_line (wsX0_showLine) := ggX3_line_X0_showLine
set_option maxRecDepth 20000 in
theorem ggX3_line_X2_lastEnd : GoodIn wsX3_line wsX2_lastEnd := goodIn_r _ [33, 19, 30, 34, 35, 36, 16, 37, 4, 5, 6, 49, 50, 51, 52] (by decide +kernel) (by decide +kernel)
set_option maxRecDepth 20000 in
theorem gX3_line_X2_lastEnd_n64 : GoodIn wsX3_line (wsX2_lastEnd) := ggX3_line_X2_lastEnd
theorem dX3_line_0 : decode cX3_line 0 = .ok (.iload_n 1, 1) := by decide +kernel
theorem dX3_line_1 : decode cX3_line 1 = .ok (.iconst 3, 1) := by decide +kernel
theorem dX3_line_2 : decode cX3_line 2 = .ok (.invokestatic 42, 3) := by decide +kernel
theorem dX3_line_5 : decode cX3_line 5 = .ok (.ifCond .ne 5, 3) := by decide +kernel
theorem dX3_line_8 : decode cX3_line 8 = .ok (.iconst (-1), 1) := by decide +kernel
theorem dX3_line_9 : decode cX3_line 9 = .ok (.ireturn, 1) := by decide +kernel
theorem dX3_line_10 : decode cX3_line 10 = .ok (.iload_n 2, 1) := by decide +kernel
theorem dX3_line_11 : decode cX3_line 11 = .ok (.iconst 0, 1) := by decide +kernel
theorem dX3_line_12 : decode cX3_line 12 = .ok (.bipush 60, 2) := by decide +kernel
theorem dX3_line_14 : decode cX3_line 14 = .ok (.invokestatic 56, 3) := by decide +kernel
theorem dX3_line_17 : decode cX3_line 17 = .ok (.ifCond .ne 6, 3) := by decide +kernel
theorem dX3_line_20 : decode cX3_line 20 = .ok (.bipush (-2), 2) := by decide +kernel
theorem dX3_line_22 : decode cX3_line 22 = .ok (.ireturn, 1) := by decide +kernel
theorem dX3_line_23 : decode cX3_line 23 = .ok (.aload_n 0, 1) := by decide +kernel
theorem dX3_line_24 : decode cX3_line 24 = .ok (.getfield 10, 3) := by decide +kernel
theorem dX3_line_27 : decode cX3_line 27 = .ok (.iload_n 1, 1) := by decide +kernel
theorem dX3_line_28 : decode cX3_line 28 = .ok (.aload_n 0, 1) := by decide +kernel
theorem dX3_line_29 : decode cX3_line 29 = .ok (.getfield 29, 3) := by decide +kernel
theorem dX3_line_32 : decode cX3_line 32 = .ok (.invokevirtual 60, 3) := by decide +kernel
theorem dX3_line_35 : decode cX3_line 35 = .ok (.aload_n 0, 1) := by decide +kernel
theorem dX3_line_36 : decode cX3_line 36 = .ok (.getfield 29, 3) := by decide +kernel
theorem dX3_line_39 : decode cX3_line 39 = .ok (.invokevirtual 64, 3) := by decide +kernel
theorem dX3_line_42 : decode cX3_line 42 = .ok (.aload_n 0, 1) := by decide +kernel
theorem dX3_line_43 : decode cX3_line 43 = .ok (.getfield 10, 3) := by decide +kernel
theorem dX3_line_46 : decode cX3_line 46 = .ok (.getfield 68, 3) := by decide +kernel
theorem dX3_line_49 : decode cX3_line 49 = .ok (.if_icmp .le 6, 3) := by decide +kernel
theorem dX3_line_52 : decode cX3_line 52 = .ok (.bipush (-5), 2) := by decide +kernel
theorem dX3_line_54 : decode cX3_line 54 = .ok (.ireturn, 1) := by decide +kernel
theorem dX3_line_55 : decode cX3_line 55 = .ok (.aload_n 0, 1) := by decide +kernel
theorem dX3_line_56 : decode cX3_line 56 = .ok (.getfield 10, 3) := by decide +kernel
theorem dX3_line_59 : decode cX3_line 59 = .ok (.getfield 71, 3) := by decide +kernel
theorem dX3_line_62 : decode cX3_line 62 = .ok (.iload_n 1, 1) := by decide +kernel
theorem dX3_line_63 : decode cX3_line 63 = .ok (.iaload, 1) := by decide +kernel
theorem dX3_line_64 : decode cX3_line 64 = .ok (.istore_n 3, 1) := by decide +kernel
theorem dX3_line_65 : decode cX3_line 65 = .ok (.aload_n 0, 1) := by decide +kernel
theorem dX3_line_66 : decode cX3_line 66 = .ok (.getfield 10, 3) := by decide +kernel
theorem dX3_line_69 : decode cX3_line 69 = .ok (.getfield 71, 3) := by decide +kernel
theorem dX3_line_72 : decode cX3_line 72 = .ok (.iload_n 1, 1) := by decide +kernel
theorem dX3_line_73 : decode cX3_line 73 = .ok (.iload_n 2, 1) := by decide +kernel
theorem dX3_line_74 : decode cX3_line 74 = .ok (.iastore, 1) := by decide +kernel
theorem dX3_line_75 : decode cX3_line 75 = .ok (.iload_n 3, 1) := by decide +kernel
theorem dX3_line_76 : decode cX3_line 76 = .ok (.ireturn, 1) := by decide +kernel
set_option maxRecDepth 20000 in
theorem ggX3_pass_X3_isWithin : GoodIn wsX3_pass wsX3_isWithin := goodIn_r _ [5] (by decide +kernel) (by decide +kernel)
set_option maxRecDepth 20000 in
theorem gX3_pass_X3_isWithin : GoodIn wsX3_pass (va_wsS RX3 56 yX3_isWithin wsX3_isWithin) := goodIn_app (goodIn_of _ (by decide +kernel)) ggX3_pass_X3_isWithin
theorem dX3_pass_0 : decode cX3_pass 0 = .ok (.iload_n 1, 1) := by decide +kernel
theorem dX3_pass_1 : decode cX3_pass 1 = .ok (.iconst 1, 1) := by decide +kernel
theorem dX3_pass_2 : decode cX3_pass 2 = .ok (.sipush 200, 3) := by decide +kernel
theorem dX3_pass_5 : decode cX3_pass 5 = .ok (.invokestatic 56, 3) := by decide +kernel
theorem dX3_pass_8 : decode cX3_pass 8 = .ok (.ifCond .ne 6, 3) := by decide +kernel
theorem dX3_pass_11 : decode cX3_pass 11 = .ok (.bipush (-2), 2) := by decide +kernel
theorem dX3_pass_13 : decode cX3_pass 13 = .ok (.ireturn, 1) := by decide +kernel
theorem dX3_pass_14 : decode cX3_pass 14 = .ok (.aload_n 0, 1) := by decide +kernel
theorem dX3_pass_15 : decode cX3_pass 15 = .ok (.getfield 10, 3) := by decide +kernel
theorem dX3_pass_18 : decode cX3_pass 18 = .ok (.dup, 1) := by decide +kernel
theorem dX3_pass_19 : decode cX3_pass 19 = .ok (.getfield 68, 3) := by decide +kernel
theorem dX3_pass_22 : decode cX3_pass 22 = .ok (.iload_n 1, 1) := by decide +kernel
theorem dX3_pass_23 : decode cX3_pass 23 = .ok (.iadd, 1) := by decide +kernel
theorem dX3_pass_24 : decode cX3_pass 24 = .ok (.putfield 68, 3) := by decide +kernel
theorem dX3_pass_27 : decode cX3_pass 27 = .ok (.aload_n 0, 1) := by decide +kernel
theorem dX3_pass_28 : decode cX3_pass 28 = .ok (.getfield 10, 3) := by decide +kernel
theorem dX3_pass_31 : decode cX3_pass 31 = .ok (.getfield 68, 3) := by decide +kernel
theorem dX3_pass_34 : decode cX3_pass 34 = .ok (.ireturn, 1) := by decide +kernel
set_option maxRecDepth 20000 in
theorem ggX3_tell_X3_refusalOfBurst : GoodIn wsX3_tell wsX3_refusalOfBurst := goodIn_r _ [6, 7, 8, 5, 9, 10, 11, 12, 13, 14, 15] (by decide +kernel) (by decide +kernel)
set_option maxRecDepth 20000 in
theorem gX3_tell_X3_refusalOfBurst : GoodIn wsX3_tell (va_wsS RX3 74 yX3_refusalOfBurst wsX3_refusalOfBurst) := goodIn_app (goodIn_of _ (by decide +kernel)) ggX3_tell_X3_refusalOfBurst
set_option maxRecDepth 20000 in
theorem ggX3_tell_X0_comingTick : GoodIn wsX3_tell wsX0_comingTick := goodIn_r _ [19, 20, 21, 22, 23, 17, 24, 25, 11, 5, 12, 139, 140, 141, 142, 143] (by decide +kernel) (by decide +kernel)
set_option maxRecDepth 20000 in
theorem gX3_tell_X0_comingTick_n81 : GoodIn wsX3_tell (wsX0_comingTick) := ggX3_tell_X0_comingTick
set_option maxRecDepth 20000 in
theorem ggX3_tell_X1_place : GoodIn wsX3_tell wsX1_place := goodIn_r _ [29, 30, 31, 32, 33, 34, 35, 36, 37, 38, 27, 39, 40, 41, 42, 43, 44, 45, 46, 47, 48, 49, 50, 51, 52, 53, 54, 55, 56, 57, 58, 59, 60, 22, 17, 23, 24, 25, 11, 5, 12, 61, 62, 63, 64, 65, 66, 67, 68, 69, 70, 71, 72, 73, 74, 75, 76, 77, 78, 79, 80, 81, 82, 83, 84, 85, 86, 87, 88, 89, 90, 91, 92, 93, 94, 95, 96, 97, 98, 99, 100, 101, 102, 103, 104, 105, 106, 107, 108, 109, 110, 111, 112, 113, 114, 115, 116, 117, 118, 119, 120, 121, 122, 123, 124, 125, 126, 144, 145, 146, 147, 148, 149, 150, 151, 152, 153, 154, 139, 140, 141, 142, 143, 155, 156, 157, 158] (by decide +kernel) (by decide +kernel)
set_option maxRecDepth 20000 in
theorem gX3_tell_X1_place_n85 : GoodIn wsX3_tell (wsX1_place) := ggX3_tell_X1_place
set_option maxRecDepth 20000 in
theorem ggX3_tell_X0_setFact : GoodIn wsX3_tell wsX0_setFact := goodIn_r _ [129, 74, 11, 5, 12, 139, 140, 141, 142, 143] (by decide +kernel) (by decide +kernel)
set_option maxRecDepth 20000 in
theorem gX3_tell_X0_setFact_n89 : GoodIn wsX3_tell (wsX0_setFact) := ggX3_tell_X0_setFact
set_option maxRecDepth 20000 in
theorem ggX3_tell_X1_writeTo : GoodIn wsX3_tell wsX1_writeTo := goodIn_r _ [132, 35, 30, 31, 32, 33, 34, 40, 41, 42, 43, 127, 17, 128, 129, 74, 11, 5, 12, 144, 145, 146, 147, 148, 149, 150, 151, 152, 153, 154, 139, 140, 141, 142, 143] (by decide +kernel) (by decide +kernel)
set_option maxRecDepth 20000 in
theorem gX3_tell_X1_writeTo_n93 : GoodIn wsX3_tell (wsX1_writeTo) := ggX3_tell_X1_writeTo
theorem dX3_tell_0 : decode cX3_tell 0 = .ok (.iload_n 1, 1) := by decide +kernel
theorem dX3_tell_1 : decode cX3_tell 1 = .ok (.iload_n 2, 1) := by decide +kernel
theorem dX3_tell_2 : decode cX3_tell 2 = .ok (.iload_n 3, 1) := by decide +kernel
theorem dX3_tell_3 : decode cX3_tell 3 = .ok (.iload 4, 2) := by decide +kernel
theorem dX3_tell_5 : decode cX3_tell 5 = .ok (.iload 5, 2) := by decide +kernel
theorem dX3_tell_7 : decode cX3_tell 7 = .ok (.invokestatic 74, 3) := by decide +kernel
theorem dX3_tell_10 : decode cX3_tell 10 = .ok (.istore 6, 2) := by decide +kernel
theorem dX3_tell_12 : decode cX3_tell 12 = .ok (.iload 6, 2) := by decide +kernel
theorem dX3_tell_14 : decode cX3_tell 14 = .ok (.ifCond .eq 6, 3) := by decide +kernel
theorem dX3_tell_17 : decode cX3_tell 17 = .ok (.iload 6, 2) := by decide +kernel
theorem dX3_tell_19 : decode cX3_tell 19 = .ok (.ireturn, 1) := by decide +kernel
theorem dX3_tell_20 : decode cX3_tell 20 = .ok (.aload_n 0, 1) := by decide +kernel
theorem dX3_tell_21 : decode cX3_tell 21 = .ok (.getfield 10, 3) := by decide +kernel
theorem dX3_tell_24 : decode cX3_tell 24 = .ok (.getfield 78, 3) := by decide +kernel
theorem dX3_tell_27 : decode cX3_tell 27 = .ok (.istore 7, 2) := by decide +kernel
theorem dX3_tell_29 : decode cX3_tell 29 = .ok (.iload 7, 2) := by decide +kernel
theorem dX3_tell_31 : decode cX3_tell 31 = .ok (.bipush 48, 2) := by decide +kernel
theorem dX3_tell_33 : decode cX3_tell 33 = .ok (.if_icmp .lt 6, 3) := by decide +kernel
theorem dX3_tell_36 : decode cX3_tell 36 = .ok (.bipush (-4), 2) := by decide +kernel
theorem dX3_tell_38 : decode cX3_tell 38 = .ok (.ireturn, 1) := by decide +kernel
theorem dX3_tell_39 : decode cX3_tell 39 = .ok (.aload_n 0, 1) := by decide +kernel
theorem dX3_tell_40 : decode cX3_tell 40 = .ok (.getfield 38, 3) := by decide +kernel
theorem dX3_tell_43 : decode cX3_tell 43 = .ok (.iload_n 1, 1) := by decide +kernel
theorem dX3_tell_44 : decode cX3_tell 44 = .ok (.iload_n 2, 1) := by decide +kernel
theorem dX3_tell_45 : decode cX3_tell 45 = .ok (.aload_n 0, 1) := by decide +kernel
theorem dX3_tell_46 : decode cX3_tell 46 = .ok (.getfield 10, 3) := by decide +kernel
theorem dX3_tell_49 : decode cX3_tell 49 = .ok (.iload_n 3, 1) := by decide +kernel
theorem dX3_tell_50 : decode cX3_tell 50 = .ok (.iload 4, 2) := by decide +kernel
theorem dX3_tell_52 : decode cX3_tell 52 = .ok (.invokevirtual 81, 3) := by decide +kernel
theorem dX3_tell_55 : decode cX3_tell 55 = .ok (.iload 5, 2) := by decide +kernel
theorem dX3_tell_57 : decode cX3_tell 57 = .ok (.invokevirtual 85, 3) := by decide +kernel
theorem dX3_tell_60 : decode cX3_tell 60 = .ok (.aload_n 0, 1) := by decide +kernel
theorem dX3_tell_61 : decode cX3_tell 61 = .ok (.getfield 10, 3) := by decide +kernel
theorem dX3_tell_64 : decode cX3_tell 64 = .ok (.iload 7, 2) := by decide +kernel
theorem dX3_tell_66 : decode cX3_tell 66 = .ok (.iconst 1, 1) := by decide +kernel
theorem dX3_tell_67 : decode cX3_tell 67 = .ok (.iadd, 1) := by decide +kernel
theorem dX3_tell_68 : decode cX3_tell 68 = .ok (.putfield 78, 3) := by decide +kernel
theorem dX3_tell_71 : decode cX3_tell 71 = .ok (.aload_n 0, 1) := by decide +kernel
theorem dX3_tell_72 : decode cX3_tell 72 = .ok (.getfield 10, 3) := by decide +kernel
theorem dX3_tell_75 : decode cX3_tell 75 = .ok (.iload 7, 2) := by decide +kernel
theorem dX3_tell_77 : decode cX3_tell 77 = .ok (.iconst 2, 1) := by decide +kernel
theorem dX3_tell_78 : decode cX3_tell 78 = .ok (.iload_n 3, 1) := by decide +kernel
theorem dX3_tell_79 : decode cX3_tell 79 = .ok (.invokevirtual 89, 3) := by decide +kernel
theorem dX3_tell_82 : decode cX3_tell 82 = .ok (.aload_n 0, 1) := by decide +kernel
theorem dX3_tell_83 : decode cX3_tell 83 = .ok (.getfield 10, 3) := by decide +kernel
theorem dX3_tell_86 : decode cX3_tell 86 = .ok (.iload 7, 2) := by decide +kernel
theorem dX3_tell_88 : decode cX3_tell 88 = .ok (.iconst 3, 1) := by decide +kernel
theorem dX3_tell_89 : decode cX3_tell 89 = .ok (.iload 4, 2) := by decide +kernel
theorem dX3_tell_91 : decode cX3_tell 91 = .ok (.invokevirtual 89, 3) := by decide +kernel
theorem dX3_tell_94 : decode cX3_tell 94 = .ok (.aload_n 0, 1) := by decide +kernel
theorem dX3_tell_95 : decode cX3_tell 95 = .ok (.getfield 38, 3) := by decide +kernel
theorem dX3_tell_98 : decode cX3_tell 98 = .ok (.iload 7, 2) := by decide +kernel
theorem dX3_tell_100 : decode cX3_tell 100 = .ok (.invokevirtual 93, 3) := by decide +kernel
theorem dX3_tell_103 : decode cX3_tell 103 = .ok (.iload 7, 2) := by decide +kernel
theorem dX3_tell_105 : decode cX3_tell 105 = .ok (.ireturn, 1) := by decide +kernel
set_option maxRecDepth 20000 in
theorem ggX3_would_X3_refusalOfBurst : GoodIn wsX3_would wsX3_refusalOfBurst := goodIn_r _ [6, 7, 8, 5, 9, 10, 11, 12, 13, 14, 15] (by decide +kernel) (by decide +kernel)
set_option maxRecDepth 20000 in
theorem gX3_would_X3_refusalOfBurst : GoodIn wsX3_would (va_wsS RX3 74 yX3_refusalOfBurst wsX3_refusalOfBurst) := goodIn_app (goodIn_of _ (by decide +kernel)) ggX3_would_X3_refusalOfBurst
set_option maxRecDepth 20000 in
theorem ggX3_would_X0_comingTick : GoodIn wsX3_would wsX0_comingTick := goodIn_r _ [19, 20, 21, 22, 23, 17, 24, 25, 11, 5, 12, 144, 145, 146, 147, 148] (by decide +kernel) (by decide +kernel)
set_option maxRecDepth 20000 in
theorem gX3_would_X0_comingTick_n81 : GoodIn wsX3_would (wsX0_comingTick) := ggX3_would_X0_comingTick
set_option maxRecDepth 20000 in
theorem ggX3_would_X1_place : GoodIn wsX3_would wsX1_place := goodIn_r _ [29, 30, 31, 32, 33, 34, 35, 36, 37, 38, 27, 39, 40, 41, 42, 43, 44, 45, 46, 47, 48, 49, 50, 51, 52, 53, 54, 55, 56, 57, 58, 59, 60, 22, 17, 23, 24, 25, 11, 5, 12, 61, 62, 63, 64, 65, 66, 67, 68, 69, 70, 71, 72, 73, 74, 75, 76, 77, 78, 79, 80, 81, 82, 83, 84, 85, 86, 87, 88, 89, 90, 91, 92, 93, 94, 95, 96, 97, 98, 99, 100, 101, 102, 103, 104, 105, 106, 107, 108, 109, 110, 111, 112, 113, 114, 115, 116, 117, 118, 119, 120, 121, 122, 123, 124, 125, 126, 133, 134, 135, 136, 137, 138, 139, 140, 141, 142, 143, 144, 145, 146, 147, 148, 149, 150, 151, 152] (by decide +kernel) (by decide +kernel)
set_option maxRecDepth 20000 in
theorem gX3_would_X1_place_n85 : GoodIn wsX3_would (wsX1_place) := ggX3_would_X1_place
theorem dX3_would_0 : decode cX3_would 0 = .ok (.iload_n 1, 1) := by decide +kernel
theorem dX3_would_1 : decode cX3_would 1 = .ok (.iload_n 2, 1) := by decide +kernel
theorem dX3_would_2 : decode cX3_would 2 = .ok (.iload_n 3, 1) := by decide +kernel
theorem dX3_would_3 : decode cX3_would 3 = .ok (.iload 4, 2) := by decide +kernel
theorem dX3_would_5 : decode cX3_would 5 = .ok (.iload 5, 2) := by decide +kernel
theorem dX3_would_7 : decode cX3_would 7 = .ok (.invokestatic 74, 3) := by decide +kernel
theorem dX3_would_10 : decode cX3_would 10 = .ok (.istore 6, 2) := by decide +kernel
theorem dX3_would_12 : decode cX3_would 12 = .ok (.iload 6, 2) := by decide +kernel
theorem dX3_would_14 : decode cX3_would 14 = .ok (.ifCond .eq 6, 3) := by decide +kernel
theorem dX3_would_17 : decode cX3_would 17 = .ok (.iload 6, 2) := by decide +kernel
theorem dX3_would_19 : decode cX3_would 19 = .ok (.ireturn, 1) := by decide +kernel
theorem dX3_would_20 : decode cX3_would 20 = .ok (.aload_n 0, 1) := by decide +kernel
theorem dX3_would_21 : decode cX3_would 21 = .ok (.getfield 38, 3) := by decide +kernel
theorem dX3_would_24 : decode cX3_would 24 = .ok (.iload_n 1, 1) := by decide +kernel
theorem dX3_would_25 : decode cX3_would 25 = .ok (.iload_n 2, 1) := by decide +kernel
theorem dX3_would_26 : decode cX3_would 26 = .ok (.aload_n 0, 1) := by decide +kernel
theorem dX3_would_27 : decode cX3_would 27 = .ok (.getfield 10, 3) := by decide +kernel
theorem dX3_would_30 : decode cX3_would 30 = .ok (.iload_n 3, 1) := by decide +kernel
theorem dX3_would_31 : decode cX3_would 31 = .ok (.iload 4, 2) := by decide +kernel
theorem dX3_would_33 : decode cX3_would 33 = .ok (.invokevirtual 81, 3) := by decide +kernel
theorem dX3_would_36 : decode cX3_would 36 = .ok (.iload 5, 2) := by decide +kernel
theorem dX3_would_38 : decode cX3_would 38 = .ok (.invokevirtual 85, 3) := by decide +kernel
theorem dX3_would_41 : decode cX3_would 41 = .ok (.aload_n 0, 1) := by decide +kernel
theorem dX3_would_42 : decode cX3_would 42 = .ok (.getfield 38, 3) := by decide +kernel
theorem dX3_would_45 : decode cX3_would 45 = .ok (.getfield 97, 3) := by decide +kernel
theorem dX3_would_48 : decode cX3_would 48 = .ok (.ireturn, 1) := by decide +kernel
set_option maxRecDepth 20000 in
theorem ggX3_back_X3_isBelow : GoodIn wsX3_back wsX3_isBelow := goodIn_r _ [5] (by decide +kernel) (by decide +kernel)
set_option maxRecDepth 20000 in
theorem gX3_back_X3_isBelow : GoodIn wsX3_back (va_wsS RX3 42 yX3_isBelow wsX3_isBelow) := goodIn_app (goodIn_of _ (by decide +kernel)) ggX3_back_X3_isBelow
set_option maxRecDepth 20000 in
theorem ggX3_back_X0_fact : GoodIn wsX3_back wsX0_fact := goodIn_r _ [9, 10, 3, 4, 5, 24, 25, 26, 27, 28] (by decide +kernel) (by decide +kernel)
set_option maxRecDepth 20000 in
theorem gX3_back_X0_fact_n100 : GoodIn wsX3_back (wsX0_fact) := ggX3_back_X0_fact
set_option maxRecDepth 20000 in
theorem ggX3_back_X0_takeBack : GoodIn wsX3_back wsX0_takeBack := goodIn_r _ [13, 14, 15, 16, 7, 17, 10, 3, 4, 5, 24, 25, 26, 27, 28] (by decide +kernel) (by decide +kernel)
set_option maxRecDepth 20000 in
theorem gX3_back_X0_takeBack_n103 : GoodIn wsX3_back (wsX0_takeBack) := ggX3_back_X0_takeBack
theorem dX3_back_0 : decode cX3_back 0 = .ok (.iload_n 1, 1) := by decide +kernel
theorem dX3_back_1 : decode cX3_back 1 = .ok (.aload_n 0, 1) := by decide +kernel
theorem dX3_back_2 : decode cX3_back 2 = .ok (.getfield 10, 3) := by decide +kernel
theorem dX3_back_5 : decode cX3_back 5 = .ok (.getfield 78, 3) := by decide +kernel
theorem dX3_back_8 : decode cX3_back 8 = .ok (.invokestatic 42, 3) := by decide +kernel
theorem dX3_back_11 : decode cX3_back 11 = .ok (.ifCond .ne 5, 3) := by decide +kernel
theorem dX3_back_14 : decode cX3_back 14 = .ok (.iconst (-1), 1) := by decide +kernel
theorem dX3_back_15 : decode cX3_back 15 = .ok (.ireturn, 1) := by decide +kernel
theorem dX3_back_16 : decode cX3_back 16 = .ok (.aload_n 0, 1) := by decide +kernel
theorem dX3_back_17 : decode cX3_back 17 = .ok (.getfield 10, 3) := by decide +kernel
theorem dX3_back_20 : decode cX3_back 20 = .ok (.iload_n 1, 1) := by decide +kernel
theorem dX3_back_21 : decode cX3_back 21 = .ok (.iconst 5, 1) := by decide +kernel
theorem dX3_back_22 : decode cX3_back 22 = .ok (.invokevirtual 100, 3) := by decide +kernel
theorem dX3_back_25 : decode cX3_back 25 = .ok (.aload_n 0, 1) := by decide +kernel
theorem dX3_back_26 : decode cX3_back 26 = .ok (.getfield 10, 3) := by decide +kernel
theorem dX3_back_29 : decode cX3_back 29 = .ok (.getfield 68, 3) := by decide +kernel
theorem dX3_back_32 : decode cX3_back 32 = .ok (.if_icmp .gt 6, 3) := by decide +kernel
theorem dX3_back_35 : decode cX3_back 35 = .ok (.bipush (-3), 2) := by decide +kernel
theorem dX3_back_37 : decode cX3_back 37 = .ok (.ireturn, 1) := by decide +kernel
theorem dX3_back_38 : decode cX3_back 38 = .ok (.aload_n 0, 1) := by decide +kernel
theorem dX3_back_39 : decode cX3_back 39 = .ok (.getfield 10, 3) := by decide +kernel
theorem dX3_back_42 : decode cX3_back 42 = .ok (.iload_n 1, 1) := by decide +kernel
theorem dX3_back_43 : decode cX3_back 43 = .ok (.bipush 6, 2) := by decide +kernel
theorem dX3_back_45 : decode cX3_back 45 = .ok (.invokevirtual 100, 3) := by decide +kernel
theorem dX3_back_48 : decode cX3_back 48 = .ok (.iconst 4, 1) := by decide +kernel
theorem dX3_back_49 : decode cX3_back 49 = .ok (.if_icmp .ne 6, 3) := by decide +kernel
theorem dX3_back_52 : decode cX3_back 52 = .ok (.bipush (-5), 2) := by decide +kernel
theorem dX3_back_54 : decode cX3_back 54 = .ok (.ireturn, 1) := by decide +kernel
theorem dX3_back_55 : decode cX3_back 55 = .ok (.aload_n 0, 1) := by decide +kernel
theorem dX3_back_56 : decode cX3_back 56 = .ok (.getfield 10, 3) := by decide +kernel
theorem dX3_back_59 : decode cX3_back 59 = .ok (.iload_n 1, 1) := by decide +kernel
theorem dX3_back_60 : decode cX3_back 60 = .ok (.bipush 9, 2) := by decide +kernel
theorem dX3_back_62 : decode cX3_back 62 = .ok (.invokevirtual 100, 3) := by decide +kernel
theorem dX3_back_65 : decode cX3_back 65 = .ok (.istore_n 2, 1) := by decide +kernel
theorem dX3_back_66 : decode cX3_back 66 = .ok (.aload_n 0, 1) := by decide +kernel
theorem dX3_back_67 : decode cX3_back 67 = .ok (.getfield 10, 3) := by decide +kernel
theorem dX3_back_70 : decode cX3_back 70 = .ok (.iload_n 1, 1) := by decide +kernel
theorem dX3_back_71 : decode cX3_back 71 = .ok (.invokevirtual 103, 3) := by decide +kernel
theorem dX3_back_74 : decode cX3_back 74 = .ok (.iload_n 2, 1) := by decide +kernel
theorem dX3_back_75 : decode cX3_back 75 = .ok (.ireturn, 1) := by decide +kernel
set_option maxRecDepth 20000 in
theorem ggX3_burst_X3_isBelow : GoodIn wsX3_burst wsX3_isBelow := goodIn_r _ [5] (by decide +kernel) (by decide +kernel)
set_option maxRecDepth 20000 in
theorem gX3_burst_X3_isBelow : GoodIn wsX3_burst (va_wsS RX3 42 yX3_isBelow wsX3_isBelow) := goodIn_app (goodIn_of _ (by decide +kernel)) ggX3_burst_X3_isBelow
set_option maxRecDepth 20000 in
theorem ggX3_burst_X0_fact : GoodIn wsX3_burst wsX0_fact := goodIn_r _ [9, 10, 3, 4, 5, 17, 18, 19, 20, 21] (by decide +kernel) (by decide +kernel)
set_option maxRecDepth 20000 in
theorem gX3_burst_X0_fact_n100 : GoodIn wsX3_burst (wsX0_fact) := ggX3_burst_X0_fact
theorem dX3_burst_0 : decode cX3_burst 0 = .ok (.iload_n 1, 1) := by decide +kernel
theorem dX3_burst_1 : decode cX3_burst 1 = .ok (.aload_n 0, 1) := by decide +kernel
theorem dX3_burst_2 : decode cX3_burst 2 = .ok (.getfield 10, 3) := by decide +kernel
theorem dX3_burst_5 : decode cX3_burst 5 = .ok (.getfield 78, 3) := by decide +kernel
theorem dX3_burst_8 : decode cX3_burst 8 = .ok (.invokestatic 42, 3) := by decide +kernel
theorem dX3_burst_11 : decode cX3_burst 11 = .ok (.ifCond .ne 5, 3) := by decide +kernel
theorem dX3_burst_14 : decode cX3_burst 14 = .ok (.iconst (-1), 1) := by decide +kernel
theorem dX3_burst_15 : decode cX3_burst 15 = .ok (.ireturn, 1) := by decide +kernel
theorem dX3_burst_16 : decode cX3_burst 16 = .ok (.iload_n 2, 1) := by decide +kernel
theorem dX3_burst_17 : decode cX3_burst 17 = .ok (.bipush 11, 2) := by decide +kernel
theorem dX3_burst_19 : decode cX3_burst 19 = .ok (.invokestatic 42, 3) := by decide +kernel
theorem dX3_burst_22 : decode cX3_burst 22 = .ok (.ifCond .eq 15, 3) := by decide +kernel
theorem dX3_burst_25 : decode cX3_burst 25 = .ok (.aload_n 0, 1) := by decide +kernel
theorem dX3_burst_26 : decode cX3_burst 26 = .ok (.getfield 10, 3) := by decide +kernel
theorem dX3_burst_29 : decode cX3_burst 29 = .ok (.iload_n 1, 1) := by decide +kernel
theorem dX3_burst_30 : decode cX3_burst 30 = .ok (.iload_n 2, 1) := by decide +kernel
theorem dX3_burst_31 : decode cX3_burst 31 = .ok (.invokevirtual 100, 3) := by decide +kernel
theorem dX3_burst_34 : decode cX3_burst 34 = .ok (.goto 5, 3) := by decide +kernel
theorem dX3_burst_37 : decode cX3_burst 37 = .ok (.bipush (-2), 2) := by decide +kernel
theorem dX3_burst_39 : decode cX3_burst 39 = .ok (.ireturn, 1) := by decide +kernel
set_option maxRecDepth 20000 in
theorem ggX3_booking_X3_isColour : GoodIn wsX3_booking wsX3_isColour := goodIn_r _ [6, 7, 8, 5, 9] (by decide +kernel) (by decide +kernel)
set_option maxRecDepth 20000 in
theorem gX3_booking_X3_isColour : GoodIn wsX3_booking (va_wsS RX3 106 yX3_isColour wsX3_isColour) := goodIn_app (goodIn_of _ (by decide +kernel)) ggX3_booking_X3_isColour
set_option maxRecDepth 20000 in
theorem ggX3_booking_X0_showColour : GoodIn wsX3_booking wsX0_showColour := goodIn_r _ [13, 14, 15, 16, 17, 18, 19, 20, 21, 22, 11, 23, 24, 8, 5, 9, 25, 26, 27, 28, 29, 30, 54, 55, 56, 57, 58, 59, 60, 61, 62] (by decide +kernel) (by decide +kernel)
set_option maxRecDepth 20000 in
theorem gX3_booking_X0_showColour_n109 : GoodIn wsX3_booking (wsX0_showColour) := ggX3_booking_X0_showColour
set_option maxRecDepth 20000 in
theorem ggX3_booking_X3_ofBooking : GoodIn wsX3_booking wsX3_ofBooking := goodIn_r _ [34, 2, 35, 16, 36, 37, 28, 38, 39, 40, 41, 19, 8, 5, 9, 42, 43, 44, 30, 45, 46, 47, 29, 48, 49, 50, 51, 52, 53, 59, 60, 61, 62] (by decide +kernel) (by decide +kernel)
set_option maxRecDepth 20000 in
theorem gX3_booking_X3_ofBooking : GoodIn wsX3_booking (wsV RX3 113 RX3 yX3_ofBooking wsX3_ofBooking) := goodIn_app (goodIn_of _ (by decide +kernel)) ggX3_booking_X3_ofBooking
theorem dX3_booking_0 : decode cX3_booking 0 = .ok (.iload_n 1, 1) := by decide +kernel
theorem dX3_booking_1 : decode cX3_booking 1 = .ok (.iload_n 2, 1) := by decide +kernel
theorem dX3_booking_2 : decode cX3_booking 2 = .ok (.invokestatic 106, 3) := by decide +kernel
theorem dX3_booking_5 : decode cX3_booking 5 = .ok (.ifCond .ne 5, 3) := by decide +kernel
theorem dX3_booking_8 : decode cX3_booking 8 = .ok (.iconst (-1), 1) := by decide +kernel
theorem dX3_booking_9 : decode cX3_booking 9 = .ok (.ireturn, 1) := by decide +kernel
theorem dX3_booking_10 : decode cX3_booking 10 = .ok (.aload_n 0, 1) := by decide +kernel
theorem dX3_booking_11 : decode cX3_booking 11 = .ok (.getfield 10, 3) := by decide +kernel
theorem dX3_booking_14 : decode cX3_booking 14 = .ok (.iload_n 1, 1) := by decide +kernel
theorem dX3_booking_15 : decode cX3_booking 15 = .ok (.iload_n 2, 1) := by decide +kernel
theorem dX3_booking_16 : decode cX3_booking 16 = .ok (.aload_n 0, 1) := by decide +kernel
theorem dX3_booking_17 : decode cX3_booking 17 = .ok (.getfield 29, 3) := by decide +kernel
theorem dX3_booking_20 : decode cX3_booking 20 = .ok (.invokevirtual 109, 3) := by decide +kernel
theorem dX3_booking_23 : decode cX3_booking 23 = .ok (.aload_n 0, 1) := by decide +kernel
theorem dX3_booking_24 : decode cX3_booking 24 = .ok (.iload_n 3, 1) := by decide +kernel
theorem dX3_booking_25 : decode cX3_booking 25 = .ok (.iload 4, 2) := by decide +kernel
theorem dX3_booking_27 : decode cX3_booking 27 = .ok (.invokevirtual 113, 3) := by decide +kernel
theorem dX3_booking_30 : decode cX3_booking 30 = .ok (.ireturn, 1) := by decide +kernel
set_option maxRecDepth 20000 in
theorem ggX3_held_X3_isBelow : GoodIn wsX3_held wsX3_isBelow := goodIn_r _ [6] (by decide +kernel) (by decide +kernel)
set_option maxRecDepth 20000 in
theorem gX3_held_X3_isBelow : GoodIn wsX3_held (va_wsS RX3 42 yX3_isBelow wsX3_isBelow) := goodIn_app (goodIn_of _ (by decide +kernel)) ggX3_held_X3_isBelow
set_option maxRecDepth 20000 in
theorem ggX3_held_X0_showLine : GoodIn wsX3_held wsX0_showLine := goodIn_r _ [10, 11, 12, 13, 14, 15, 16, 17, 18, 19, 8, 20, 21, 4, 5, 6, 22, 23, 24, 25, 26, 27, 51, 52, 53, 54, 55, 56, 57, 58, 59] (by decide +kernel) (by decide +kernel)
set_option maxRecDepth 20000 in
theorem gX3_held_X0_showLine_n60 : GoodIn wsX3_held (wsX0_showLine) := ggX3_held_X0_showLine
set_option maxRecDepth 20000 in
theorem ggX3_held_X3_ofBooking : GoodIn wsX3_held wsX3_ofBooking := goodIn_r _ [31, 2, 32, 13, 33, 34, 25, 35, 36, 37, 38, 16, 4, 5, 6, 39, 40, 41, 27, 42, 43, 44, 26, 45, 46, 47, 48, 49, 50, 56, 57, 58, 59] (by decide +kernel) (by decide +kernel)
set_option maxRecDepth 20000 in
theorem gX3_held_X3_ofBooking : GoodIn wsX3_held (wsV RX3 113 RX3 yX3_ofBooking wsX3_ofBooking) := goodIn_app (goodIn_of _ (by decide +kernel)) ggX3_held_X3_ofBooking
theorem dX3_held_0 : decode cX3_held 0 = .ok (.iload_n 1, 1) := by decide +kernel
theorem dX3_held_1 : decode cX3_held 1 = .ok (.iconst 3, 1) := by decide +kernel
theorem dX3_held_2 : decode cX3_held 2 = .ok (.invokestatic 42, 3) := by decide +kernel
theorem dX3_held_5 : decode cX3_held 5 = .ok (.ifCond .ne 5, 3) := by decide +kernel
theorem dX3_held_8 : decode cX3_held 8 = .ok (.iconst (-1), 1) := by decide +kernel
theorem dX3_held_9 : decode cX3_held 9 = .ok (.ireturn, 1) := by decide +kernel
theorem dX3_held_10 : decode cX3_held 10 = .ok (.aload_n 0, 1) := by decide +kernel
theorem dX3_held_11 : decode cX3_held 11 = .ok (.getfield 10, 3) := by decide +kernel
theorem dX3_held_14 : decode cX3_held 14 = .ok (.iload_n 1, 1) := by decide +kernel
theorem dX3_held_15 : decode cX3_held 15 = .ok (.aload_n 0, 1) := by decide +kernel
theorem dX3_held_16 : decode cX3_held 16 = .ok (.getfield 29, 3) := by decide +kernel
theorem dX3_held_19 : decode cX3_held 19 = .ok (.invokevirtual 60, 3) := by decide +kernel
theorem dX3_held_22 : decode cX3_held 22 = .ok (.aload_n 0, 1) := by decide +kernel
theorem dX3_held_23 : decode cX3_held 23 = .ok (.iload_n 2, 1) := by decide +kernel
theorem dX3_held_24 : decode cX3_held 24 = .ok (.iload_n 3, 1) := by decide +kernel
theorem dX3_held_25 : decode cX3_held 25 = .ok (.invokevirtual 113, 3) := by decide +kernel
theorem dX3_held_28 : decode cX3_held 28 = .ok (.ireturn, 1) := by decide +kernel
set_option maxRecDepth 20000 in
theorem ggX3_busy_X3_isColour : GoodIn wsX3_busy wsX3_isColour := goodIn_r _ [6, 7, 8, 5, 9] (by decide +kernel) (by decide +kernel)
set_option maxRecDepth 20000 in
theorem gX3_busy_X3_isColour : GoodIn wsX3_busy (va_wsS RX3 106 yX3_isColour wsX3_isColour) := goodIn_app (goodIn_of _ (by decide +kernel)) ggX3_busy_X3_isColour
set_option maxRecDepth 20000 in
theorem ggX3_busy_X3_isSpan : GoodIn wsX3_busy wsX3_isSpan := goodIn_r _ [12, 13, 14, 5, 15] (by decide +kernel) (by decide +kernel)
set_option maxRecDepth 20000 in
theorem gX3_busy_X3_isSpan : GoodIn wsX3_busy (va_wsS RX3 116 yX3_isSpan wsX3_isSpan) := goodIn_app (goodIn_of _ (by decide +kernel)) ggX3_busy_X3_isSpan
set_option maxRecDepth 20000 in
theorem ggX3_busy_X0_showColour : GoodIn wsX3_busy wsX0_showColour := goodIn_r _ [19, 20, 21, 22, 23, 24, 25, 26, 27, 28, 17, 29, 30, 8, 5, 9, 31, 32, 33, 34, 35, 36, 53, 54, 55, 56, 57, 58, 59, 60, 61] (by decide +kernel) (by decide +kernel)
set_option maxRecDepth 20000 in
theorem gX3_busy_X0_showColour_n109 : GoodIn wsX3_busy (wsX0_showColour) := ggX3_busy_X0_showColour
set_option maxRecDepth 20000 in
theorem ggX3_busy_X2_bookedTicks : GoodIn wsX3_busy wsX2_bookedTicks := goodIn_r _ [39, 25, 36, 40, 41, 42, 43, 34, 44, 45, 46, 58, 59, 60, 61] (by decide +kernel) (by decide +kernel)
set_option maxRecDepth 20000 in
theorem gX3_busy_X2_bookedTicks_n119 : GoodIn wsX3_busy (wsX2_bookedTicks) := ggX3_busy_X2_bookedTicks
theorem dX3_busy_0 : decode cX3_busy 0 = .ok (.iload_n 1, 1) := by decide +kernel
theorem dX3_busy_1 : decode cX3_busy 1 = .ok (.iload_n 2, 1) := by decide +kernel
theorem dX3_busy_2 : decode cX3_busy 2 = .ok (.invokestatic 106, 3) := by decide +kernel
theorem dX3_busy_5 : decode cX3_busy 5 = .ok (.ifCond .ne 5, 3) := by decide +kernel
theorem dX3_busy_8 : decode cX3_busy 8 = .ok (.iconst (-1), 1) := by decide +kernel
theorem dX3_busy_9 : decode cX3_busy 9 = .ok (.ireturn, 1) := by decide +kernel
theorem dX3_busy_10 : decode cX3_busy 10 = .ok (.iload_n 3, 1) := by decide +kernel
theorem dX3_busy_11 : decode cX3_busy 11 = .ok (.iload 4, 2) := by decide +kernel
theorem dX3_busy_13 : decode cX3_busy 13 = .ok (.invokestatic 116, 3) := by decide +kernel
theorem dX3_busy_16 : decode cX3_busy 16 = .ok (.ifCond .ne 6, 3) := by decide +kernel
theorem dX3_busy_19 : decode cX3_busy 19 = .ok (.bipush (-2), 2) := by decide +kernel
theorem dX3_busy_21 : decode cX3_busy 21 = .ok (.ireturn, 1) := by decide +kernel
theorem dX3_busy_22 : decode cX3_busy 22 = .ok (.aload_n 0, 1) := by decide +kernel
theorem dX3_busy_23 : decode cX3_busy 23 = .ok (.getfield 10, 3) := by decide +kernel
theorem dX3_busy_26 : decode cX3_busy 26 = .ok (.iload_n 1, 1) := by decide +kernel
theorem dX3_busy_27 : decode cX3_busy 27 = .ok (.iload_n 2, 1) := by decide +kernel
theorem dX3_busy_28 : decode cX3_busy 28 = .ok (.aload_n 0, 1) := by decide +kernel
theorem dX3_busy_29 : decode cX3_busy 29 = .ok (.getfield 29, 3) := by decide +kernel
theorem dX3_busy_32 : decode cX3_busy 32 = .ok (.invokevirtual 109, 3) := by decide +kernel
theorem dX3_busy_35 : decode cX3_busy 35 = .ok (.aload_n 0, 1) := by decide +kernel
theorem dX3_busy_36 : decode cX3_busy 36 = .ok (.getfield 29, 3) := by decide +kernel
theorem dX3_busy_39 : decode cX3_busy 39 = .ok (.iload_n 3, 1) := by decide +kernel
theorem dX3_busy_40 : decode cX3_busy 40 = .ok (.iload_n 3, 1) := by decide +kernel
theorem dX3_busy_41 : decode cX3_busy 41 = .ok (.iload 4, 2) := by decide +kernel
theorem dX3_busy_43 : decode cX3_busy 43 = .ok (.iadd, 1) := by decide +kernel
theorem dX3_busy_44 : decode cX3_busy 44 = .ok (.invokevirtual 119, 3) := by decide +kernel
theorem dX3_busy_47 : decode cX3_busy 47 = .ok (.ireturn, 1) := by decide +kernel
set_option maxRecDepth 20000 in
theorem ggX3_free_X3_isBelow : GoodIn wsX3_free wsX3_isBelow := goodIn_r _ [6] (by decide +kernel) (by decide +kernel)
set_option maxRecDepth 20000 in
theorem gX3_free_X3_isBelow : GoodIn wsX3_free (va_wsS RX3 42 yX3_isBelow wsX3_isBelow) := goodIn_app (goodIn_of _ (by decide +kernel)) ggX3_free_X3_isBelow
set_option maxRecDepth 20000 in
theorem ggX3_free_X3_isSpan : GoodIn wsX3_free wsX3_isSpan := goodIn_r _ [9, 10, 11, 5, 12] (by decide +kernel) (by decide +kernel)
set_option maxRecDepth 20000 in
theorem gX3_free_X3_isSpan : GoodIn wsX3_free (va_wsS RX3 116 yX3_isSpan wsX3_isSpan) := goodIn_app (goodIn_of _ (by decide +kernel)) ggX3_free_X3_isSpan
set_option maxRecDepth 20000 in
theorem ggX3_free_X0_showColour : GoodIn wsX3_free wsX0_showColour := goodIn_r _ [16, 17, 18, 19, 20, 21, 22, 23, 24, 25, 14, 26, 27, 4, 5, 6, 28, 29, 30, 31, 32, 33, 54, 55, 56, 57, 58, 59, 60, 61, 62] (by decide +kernel) (by decide +kernel)
set_option maxRecDepth 20000 in
theorem gX3_free_X0_showColour_n109 : GoodIn wsX3_free (wsX0_showColour) := ggX3_free_X0_showColour
set_option maxRecDepth 20000 in
theorem ggX3_free_X2_isFree : GoodIn wsX3_free wsX2_isFree := goodIn_r _ [36, 37, 38, 39, 19, 40, 22, 33, 31, 41, 42, 43, 44, 45, 46, 47, 59, 60, 61, 62] (by decide +kernel) (by decide +kernel)
set_option maxRecDepth 20000 in
theorem gX3_free_X2_isFree_n122 : GoodIn wsX3_free (wsX2_isFree) := ggX3_free_X2_isFree
theorem dX3_free_0 : decode cX3_free 0 = .ok (.iload_n 1, 1) := by decide +kernel
theorem dX3_free_1 : decode cX3_free 1 = .ok (.iconst 2, 1) := by decide +kernel
theorem dX3_free_2 : decode cX3_free 2 = .ok (.invokestatic 42, 3) := by decide +kernel
theorem dX3_free_5 : decode cX3_free 5 = .ok (.ifCond .ne 5, 3) := by decide +kernel
theorem dX3_free_8 : decode cX3_free 8 = .ok (.iconst (-1), 1) := by decide +kernel
theorem dX3_free_9 : decode cX3_free 9 = .ok (.ireturn, 1) := by decide +kernel
theorem dX3_free_10 : decode cX3_free 10 = .ok (.iload_n 2, 1) := by decide +kernel
theorem dX3_free_11 : decode cX3_free 11 = .ok (.iload_n 3, 1) := by decide +kernel
theorem dX3_free_12 : decode cX3_free 12 = .ok (.invokestatic 116, 3) := by decide +kernel
theorem dX3_free_15 : decode cX3_free 15 = .ok (.ifCond .ne 6, 3) := by decide +kernel
theorem dX3_free_18 : decode cX3_free 18 = .ok (.bipush (-2), 2) := by decide +kernel
theorem dX3_free_20 : decode cX3_free 20 = .ok (.ireturn, 1) := by decide +kernel
theorem dX3_free_21 : decode cX3_free 21 = .ok (.iconst 0, 1) := by decide +kernel
theorem dX3_free_22 : decode cX3_free 22 = .ok (.istore 4, 2) := by decide +kernel
theorem dX3_free_24 : decode cX3_free 24 = .ok (.iconst 0, 1) := by decide +kernel
theorem dX3_free_25 : decode cX3_free 25 = .ok (.istore 5, 2) := by decide +kernel
theorem dX3_free_27 : decode cX3_free 27 = .ok (.iload 5, 2) := by decide +kernel
theorem dX3_free_29 : decode cX3_free 29 = .ok (.bipush 6, 2) := by decide +kernel
theorem dX3_free_31 : decode cX3_free 31 = .ok (.if_icmp .ge 47, 3) := by decide +kernel
theorem dX3_free_34 : decode cX3_free 34 = .ok (.aload_n 0, 1) := by decide +kernel
theorem dX3_free_35 : decode cX3_free 35 = .ok (.getfield 10, 3) := by decide +kernel
theorem dX3_free_38 : decode cX3_free 38 = .ok (.iload_n 1, 1) := by decide +kernel
theorem dX3_free_39 : decode cX3_free 39 = .ok (.iload 5, 2) := by decide +kernel
theorem dX3_free_41 : decode cX3_free 41 = .ok (.aload_n 0, 1) := by decide +kernel
theorem dX3_free_42 : decode cX3_free 42 = .ok (.getfield 29, 3) := by decide +kernel
theorem dX3_free_45 : decode cX3_free 45 = .ok (.invokevirtual 109, 3) := by decide +kernel
theorem dX3_free_48 : decode cX3_free 48 = .ok (.aload_n 0, 1) := by decide +kernel
theorem dX3_free_49 : decode cX3_free 49 = .ok (.getfield 29, 3) := by decide +kernel
theorem dX3_free_52 : decode cX3_free 52 = .ok (.iload_n 2, 1) := by decide +kernel
theorem dX3_free_53 : decode cX3_free 53 = .ok (.iload_n 2, 1) := by decide +kernel
theorem dX3_free_54 : decode cX3_free 54 = .ok (.iload_n 3, 1) := by decide +kernel
theorem dX3_free_55 : decode cX3_free 55 = .ok (.iadd, 1) := by decide +kernel
theorem dX3_free_56 : decode cX3_free 56 = .ok (.iconst 1, 1) := by decide +kernel
theorem dX3_free_57 : decode cX3_free 57 = .ok (.invokevirtual 122, 3) := by decide +kernel
theorem dX3_free_60 : decode cX3_free 60 = .ok (.ifCond .eq 12, 3) := by decide +kernel
theorem dX3_free_63 : decode cX3_free 63 = .ok (.iload 4, 2) := by decide +kernel
theorem dX3_free_65 : decode cX3_free 65 = .ok (.iconst 1, 1) := by decide +kernel
theorem dX3_free_66 : decode cX3_free 66 = .ok (.iload 5, 2) := by decide +kernel
theorem dX3_free_68 : decode cX3_free 68 = .ok (.ishl, 1) := by decide +kernel
theorem dX3_free_69 : decode cX3_free 69 = .ok (.ior, 1) := by decide +kernel
theorem dX3_free_70 : decode cX3_free 70 = .ok (.istore 4, 2) := by decide +kernel
theorem dX3_free_72 : decode cX3_free 72 = .ok (.iinc 5 1, 3) := by decide +kernel
theorem dX3_free_75 : decode cX3_free 75 = .ok (.goto (-48), 3) := by decide +kernel
theorem dX3_free_78 : decode cX3_free 78 = .ok (.iload 4, 2) := by decide +kernel
theorem dX3_free_80 : decode cX3_free 80 = .ok (.ireturn, 1) := by decide +kernel
set_option maxRecDepth 20000 in
theorem ggX3_next_X3_isColour : GoodIn wsX3_next wsX3_isColour := goodIn_r _ [6, 7, 8, 5, 9] (by decide +kernel) (by decide +kernel)
set_option maxRecDepth 20000 in
theorem gX3_next_X3_isColour : GoodIn wsX3_next (va_wsS RX3 106 yX3_isColour wsX3_isColour) := goodIn_app (goodIn_of _ (by decide +kernel)) ggX3_next_X3_isColour
set_option maxRecDepth 20000 in
theorem ggX3_next_X3_isSpan : GoodIn wsX3_next wsX3_isSpan := goodIn_r _ [12, 13, 14, 5, 15] (by decide +kernel) (by decide +kernel)
set_option maxRecDepth 20000 in
theorem gX3_next_X3_isSpan : GoodIn wsX3_next (va_wsS RX3 116 yX3_isSpan wsX3_isSpan) := goodIn_app (goodIn_of _ (by decide +kernel)) ggX3_next_X3_isSpan
set_option maxRecDepth 20000 in
theorem ggX3_next_X0_showColour : GoodIn wsX3_next wsX0_showColour := goodIn_r _ [19, 20, 21, 22, 23, 24, 25, 26, 27, 28, 17, 29, 30, 8, 5, 9, 31, 32, 33, 34, 35, 36, 46, 47, 48, 49, 50, 51, 52, 53, 54] (by decide +kernel) (by decide +kernel)
set_option maxRecDepth 20000 in
theorem gX3_next_X0_showColour_n109 : GoodIn wsX3_next (wsX0_showColour) := ggX3_next_X0_showColour
set_option maxRecDepth 20000 in
theorem ggX3_next_X2_firstFree : GoodIn wsX3_next wsX2_firstFree := goodIn_r _ [39, 25, 34, 36, 51, 52, 53, 54] (by decide +kernel) (by decide +kernel)
set_option maxRecDepth 20000 in
theorem gX3_next_X2_firstFree_n126 : GoodIn wsX3_next (wsX2_firstFree) := ggX3_next_X2_firstFree
theorem dX3_next_0 : decode cX3_next 0 = .ok (.iload_n 1, 1) := by decide +kernel
theorem dX3_next_1 : decode cX3_next 1 = .ok (.iload_n 2, 1) := by decide +kernel
theorem dX3_next_2 : decode cX3_next 2 = .ok (.invokestatic 106, 3) := by decide +kernel
theorem dX3_next_5 : decode cX3_next 5 = .ok (.ifCond .ne 5, 3) := by decide +kernel
theorem dX3_next_8 : decode cX3_next 8 = .ok (.iconst (-1), 1) := by decide +kernel
theorem dX3_next_9 : decode cX3_next 9 = .ok (.ireturn, 1) := by decide +kernel
theorem dX3_next_10 : decode cX3_next 10 = .ok (.iload_n 3, 1) := by decide +kernel
theorem dX3_next_11 : decode cX3_next 11 = .ok (.iload 4, 2) := by decide +kernel
theorem dX3_next_13 : decode cX3_next 13 = .ok (.invokestatic 116, 3) := by decide +kernel
theorem dX3_next_16 : decode cX3_next 16 = .ok (.ifCond .ne 6, 3) := by decide +kernel
theorem dX3_next_19 : decode cX3_next 19 = .ok (.bipush (-2), 2) := by decide +kernel
theorem dX3_next_21 : decode cX3_next 21 = .ok (.ireturn, 1) := by decide +kernel
theorem dX3_next_22 : decode cX3_next 22 = .ok (.aload_n 0, 1) := by decide +kernel
theorem dX3_next_23 : decode cX3_next 23 = .ok (.getfield 10, 3) := by decide +kernel
theorem dX3_next_26 : decode cX3_next 26 = .ok (.iload_n 1, 1) := by decide +kernel
theorem dX3_next_27 : decode cX3_next 27 = .ok (.iload_n 2, 1) := by decide +kernel
theorem dX3_next_28 : decode cX3_next 28 = .ok (.aload_n 0, 1) := by decide +kernel
theorem dX3_next_29 : decode cX3_next 29 = .ok (.getfield 29, 3) := by decide +kernel
theorem dX3_next_32 : decode cX3_next 32 = .ok (.invokevirtual 109, 3) := by decide +kernel
theorem dX3_next_35 : decode cX3_next 35 = .ok (.aload_n 0, 1) := by decide +kernel
theorem dX3_next_36 : decode cX3_next 36 = .ok (.getfield 29, 3) := by decide +kernel
theorem dX3_next_39 : decode cX3_next 39 = .ok (.iload_n 3, 1) := by decide +kernel
theorem dX3_next_40 : decode cX3_next 40 = .ok (.iload 4, 2) := by decide +kernel
theorem dX3_next_42 : decode cX3_next 42 = .ok (.invokevirtual 126, 3) := by decide +kernel
theorem dX3_next_45 : decode cX3_next 45 = .ok (.ireturn, 1) := by decide +kernel
set_option maxRecDepth 20000 in
theorem ggX3_hole_X3_isColour : GoodIn wsX3_hole wsX3_isColour := goodIn_r _ [6, 7, 8, 5, 9] (by decide +kernel) (by decide +kernel)
set_option maxRecDepth 20000 in
theorem gX3_hole_X3_isColour : GoodIn wsX3_hole (va_wsS RX3 106 yX3_isColour wsX3_isColour) := goodIn_app (goodIn_of _ (by decide +kernel)) ggX3_hole_X3_isColour
set_option maxRecDepth 20000 in
theorem ggX3_hole_X3_isBelow : GoodIn wsX3_hole wsX3_isBelow := goodIn_r _ [9] (by decide +kernel) (by decide +kernel)
set_option maxRecDepth 20000 in
theorem gX3_hole_X3_isBelow : GoodIn wsX3_hole (va_wsS RX3 42 yX3_isBelow wsX3_isBelow) := goodIn_app (goodIn_of _ (by decide +kernel)) ggX3_hole_X3_isBelow
set_option maxRecDepth 20000 in
theorem ggX3_hole_X0_showColour : GoodIn wsX3_hole wsX0_showColour := goodIn_r _ [13, 14, 15, 16, 17, 18, 19, 20, 21, 22, 11, 23, 24, 8, 5, 9, 25, 26, 27, 28, 29, 30, 55, 56, 57, 58, 59, 60, 61, 62, 63] (by decide +kernel) (by decide +kernel)
set_option maxRecDepth 20000 in
theorem gX3_hole_X0_showColour_n109 : GoodIn wsX3_hole (wsX0_showColour) := ggX3_hole_X0_showColour
set_option maxRecDepth 20000 in
theorem ggX3_hole_X2_closingOfVoid : GoodIn wsX3_hole wsX2_closingOfVoid := goodIn_r _ [33, 19, 28, 34, 35, 36, 16, 37, 30, 38, 39, 40, 41, 42, 43, 44, 45, 8, 5, 9, 60, 61, 62, 63] (by decide +kernel) (by decide +kernel)
set_option maxRecDepth 20000 in
theorem gX3_hole_X2_closingOfVoid_n129 : GoodIn wsX3_hole (wsX2_closingOfVoid) := ggX3_hole_X2_closingOfVoid
set_option maxRecDepth 20000 in
theorem ggX3_hole_X2_voidBefore : GoodIn wsX3_hole wsX2_voidBefore := goodIn_r _ [37, 30, 38, 39, 40, 41, 42, 43, 44, 16, 45, 19, 8, 5, 9, 60, 61, 62, 63] (by decide +kernel) (by decide +kernel)
set_option maxRecDepth 20000 in
theorem gX3_hole_X2_voidBefore_n132 : GoodIn wsX3_hole (wsX2_voidBefore) := ggX3_hole_X2_voidBefore
set_option maxRecDepth 20000 in
theorem ggX3_hole_X2_begin : GoodIn wsX3_hole wsX2_begin := goodIn_r _ [48, 28, 42, 43, 44, 16, 45, 19, 8, 5, 9, 60, 61, 62, 63] (by decide +kernel) (by decide +kernel)
set_option maxRecDepth 20000 in
theorem gX3_hole_X2_begin_n135 : GoodIn wsX3_hole (wsX2_begin) := ggX3_hole_X2_begin
theorem dX3_hole_0 : decode cX3_hole 0 = .ok (.iload_n 1, 1) := by decide +kernel
theorem dX3_hole_1 : decode cX3_hole 1 = .ok (.iload_n 2, 1) := by decide +kernel
theorem dX3_hole_2 : decode cX3_hole 2 = .ok (.invokestatic 106, 3) := by decide +kernel
theorem dX3_hole_5 : decode cX3_hole 5 = .ok (.ifCond .ne 5, 3) := by decide +kernel
theorem dX3_hole_8 : decode cX3_hole 8 = .ok (.iconst (-1), 1) := by decide +kernel
theorem dX3_hole_9 : decode cX3_hole 9 = .ok (.ireturn, 1) := by decide +kernel
theorem dX3_hole_10 : decode cX3_hole 10 = .ok (.iload 4, 2) := by decide +kernel
theorem dX3_hole_12 : decode cX3_hole 12 = .ok (.iconst 2, 1) := by decide +kernel
theorem dX3_hole_13 : decode cX3_hole 13 = .ok (.invokestatic 42, 3) := by decide +kernel
theorem dX3_hole_16 : decode cX3_hole 16 = .ok (.ifCond .ne 6, 3) := by decide +kernel
theorem dX3_hole_19 : decode cX3_hole 19 = .ok (.bipush (-2), 2) := by decide +kernel
theorem dX3_hole_21 : decode cX3_hole 21 = .ok (.ireturn, 1) := by decide +kernel
theorem dX3_hole_22 : decode cX3_hole 22 = .ok (.aload_n 0, 1) := by decide +kernel
theorem dX3_hole_23 : decode cX3_hole 23 = .ok (.getfield 10, 3) := by decide +kernel
theorem dX3_hole_26 : decode cX3_hole 26 = .ok (.iload_n 1, 1) := by decide +kernel
theorem dX3_hole_27 : decode cX3_hole 27 = .ok (.iload_n 2, 1) := by decide +kernel
theorem dX3_hole_28 : decode cX3_hole 28 = .ok (.aload_n 0, 1) := by decide +kernel
theorem dX3_hole_29 : decode cX3_hole 29 = .ok (.getfield 29, 3) := by decide +kernel
theorem dX3_hole_32 : decode cX3_hole 32 = .ok (.invokevirtual 109, 3) := by decide +kernel
theorem dX3_hole_35 : decode cX3_hole 35 = .ok (.aload_n 0, 1) := by decide +kernel
theorem dX3_hole_36 : decode cX3_hole 36 = .ok (.getfield 29, 3) := by decide +kernel
theorem dX3_hole_39 : decode cX3_hole 39 = .ok (.iload_n 3, 1) := by decide +kernel
theorem dX3_hole_40 : decode cX3_hole 40 = .ok (.aload_n 0, 1) := by decide +kernel
theorem dX3_hole_41 : decode cX3_hole 41 = .ok (.getfield 10, 3) := by decide +kernel
theorem dX3_hole_44 : decode cX3_hole 44 = .ok (.getfield 68, 3) := by decide +kernel
theorem dX3_hole_47 : decode cX3_hole 47 = .ok (.invokevirtual 129, 3) := by decide +kernel
theorem dX3_hole_50 : decode cX3_hole 50 = .ok (.istore 5, 2) := by decide +kernel
theorem dX3_hole_52 : decode cX3_hole 52 = .ok (.iload 5, 2) := by decide +kernel
theorem dX3_hole_54 : decode cX3_hole 54 = .ok (.bipush (-6), 2) := by decide +kernel
theorem dX3_hole_56 : decode cX3_hole 56 = .ok (.if_icmp .ne 6, 3) := by decide +kernel
theorem dX3_hole_59 : decode cX3_hole 59 = .ok (.bipush (-6), 2) := by decide +kernel
theorem dX3_hole_61 : decode cX3_hole 61 = .ok (.ireturn, 1) := by decide +kernel
theorem dX3_hole_62 : decode cX3_hole 62 = .ok (.aload_n 0, 1) := by decide +kernel
theorem dX3_hole_63 : decode cX3_hole 63 = .ok (.getfield 29, 3) := by decide +kernel
theorem dX3_hole_66 : decode cX3_hole 66 = .ok (.iload 5, 2) := by decide +kernel
theorem dX3_hole_68 : decode cX3_hole 68 = .ok (.aload_n 0, 1) := by decide +kernel
theorem dX3_hole_69 : decode cX3_hole 69 = .ok (.getfield 10, 3) := by decide +kernel
theorem dX3_hole_72 : decode cX3_hole 72 = .ok (.getfield 68, 3) := by decide +kernel
theorem dX3_hole_75 : decode cX3_hole 75 = .ok (.invokevirtual 132, 3) := by decide +kernel
theorem dX3_hole_78 : decode cX3_hole 78 = .ok (.istore 6, 2) := by decide +kernel
theorem dX3_hole_80 : decode cX3_hole 80 = .ok (.iload 4, 2) := by decide +kernel
theorem dX3_hole_82 : decode cX3_hole 82 = .ok (.ifCond .ne 8, 3) := by decide +kernel
theorem dX3_hole_85 : decode cX3_hole 85 = .ok (.iload 6, 2) := by decide +kernel
theorem dX3_hole_87 : decode cX3_hole 87 = .ok (.goto 15, 3) := by decide +kernel
theorem dX3_hole_90 : decode cX3_hole 90 = .ok (.aload_n 0, 1) := by decide +kernel
theorem dX3_hole_91 : decode cX3_hole 91 = .ok (.getfield 29, 3) := by decide +kernel
theorem dX3_hole_94 : decode cX3_hole 94 = .ok (.iload 5, 2) := by decide +kernel
theorem dX3_hole_96 : decode cX3_hole 96 = .ok (.invokevirtual 135, 3) := by decide +kernel
theorem dX3_hole_99 : decode cX3_hole 99 = .ok (.iload 6, 2) := by decide +kernel
theorem dX3_hole_101 : decode cX3_hole 101 = .ok (.isub, 1) := by decide +kernel
theorem dX3_hole_102 : decode cX3_hole 102 = .ok (.ireturn, 1) := by decide +kernel
set_option maxRecDepth 20000 in
theorem ggX3_tally_X3_isBelow : GoodIn wsX3_tally wsX3_isBelow := goodIn_r _ [5] (by decide +kernel) (by decide +kernel)
set_option maxRecDepth 20000 in
theorem gX3_tally_X3_isBelow : GoodIn wsX3_tally (va_wsS RX3 42 yX3_isBelow wsX3_isBelow) := goodIn_app (goodIn_of _ (by decide +kernel)) ggX3_tally_X3_isBelow
set_option maxRecDepth 20000 in
theorem ggX3_tally_X0_burstsOfClass : GoodIn wsX3_tally wsX0_burstsOfClass := goodIn_r _ [9, 10, 11, 12, 13, 7, 14, 15, 16, 17, 18, 19, 3, 4, 5, 39, 40, 41, 42, 43] (by decide +kernel) (by decide +kernel)
set_option maxRecDepth 20000 in
theorem gX3_tally_X0_burstsOfClass_n139 : GoodIn wsX3_tally (wsX0_burstsOfClass) := ggX3_tally_X0_burstsOfClass
set_option maxRecDepth 20000 in
theorem ggX3_tally_X0_sumOfClass : GoodIn wsX3_tally wsX0_sumOfClass := goodIn_r _ [22, 10, 11, 12, 13, 7, 14, 15, 16, 17, 18, 19, 3, 4, 5, 39, 40, 41, 42, 43] (by decide +kernel) (by decide +kernel)
set_option maxRecDepth 20000 in
theorem gX3_tally_X0_sumOfClass_n142 : GoodIn wsX3_tally (wsX0_sumOfClass) := ggX3_tally_X0_sumOfClass
set_option maxRecDepth 20000 in
theorem ggX3_tally_X0_lostOfClass : GoodIn wsX3_tally wsX0_lostOfClass := goodIn_r _ [25, 10, 15, 16, 17, 7, 18, 19, 3, 4, 5, 39, 40, 41, 42, 43] (by decide +kernel) (by decide +kernel)
set_option maxRecDepth 20000 in
theorem gX3_tally_X0_lostOfClass_n145 : GoodIn wsX3_tally (wsX0_lostOfClass) := ggX3_tally_X0_lostOfClass
set_option maxRecDepth 20000 in
theorem ggX3_tally_X3_partLost : GoodIn wsX3_tally wsX3_partLost := goodIn_r _ [29, 1, 20, 7, 21, 22, 10, 11, 12, 13, 14, 15, 16, 17, 18, 19, 3, 4, 5, 30, 31, 32, 33, 34, 35, 36, 37, 38, 39, 40, 41, 42, 43] (by decide +kernel) (by decide +kernel)
set_option maxRecDepth 20000 in
theorem gX3_tally_X3_partLost : GoodIn wsX3_tally (wsV RX3 148 RX3 yX3_partLost wsX3_partLost) := goodIn_app (goodIn_of _ (by decide +kernel)) ggX3_tally_X3_partLost
theorem dX3_tally_0 : decode cX3_tally 0 = .ok (.iload_n 1, 1) := by decide +kernel
theorem dX3_tally_1 : decode cX3_tally 1 = .ok (.iconst 3, 1) := by decide +kernel
theorem dX3_tally_2 : decode cX3_tally 2 = .ok (.invokestatic 42, 3) := by decide +kernel
theorem dX3_tally_5 : decode cX3_tally 5 = .ok (.ifCond .ne 5, 3) := by decide +kernel
theorem dX3_tally_8 : decode cX3_tally 8 = .ok (.iconst (-1), 1) := by decide +kernel
theorem dX3_tally_9 : decode cX3_tally 9 = .ok (.ireturn, 1) := by decide +kernel
theorem dX3_tally_10 : decode cX3_tally 10 = .ok (.iload_n 2, 1) := by decide +kernel
theorem dX3_tally_11 : decode cX3_tally 11 = .ok (.tableswitch 92 0 5 #[37, 46, 56, 67, 76, 76], 37) := by decide +kernel
theorem dX3_tally_48 : decode cX3_tally 48 = .ok (.aload_n 0, 1) := by decide +kernel
theorem dX3_tally_49 : decode cX3_tally 49 = .ok (.getfield 10, 3) := by decide +kernel
theorem dX3_tally_52 : decode cX3_tally 52 = .ok (.iload_n 1, 1) := by decide +kernel
theorem dX3_tally_53 : decode cX3_tally 53 = .ok (.invokevirtual 139, 3) := by decide +kernel
theorem dX3_tally_56 : decode cX3_tally 56 = .ok (.ireturn, 1) := by decide +kernel
theorem dX3_tally_57 : decode cX3_tally 57 = .ok (.aload_n 0, 1) := by decide +kernel
theorem dX3_tally_58 : decode cX3_tally 58 = .ok (.getfield 10, 3) := by decide +kernel
theorem dX3_tally_61 : decode cX3_tally 61 = .ok (.iload_n 1, 1) := by decide +kernel
theorem dX3_tally_62 : decode cX3_tally 62 = .ok (.iconst 4, 1) := by decide +kernel
theorem dX3_tally_63 : decode cX3_tally 63 = .ok (.invokevirtual 142, 3) := by decide +kernel
theorem dX3_tally_66 : decode cX3_tally 66 = .ok (.ireturn, 1) := by decide +kernel
theorem dX3_tally_67 : decode cX3_tally 67 = .ok (.aload_n 0, 1) := by decide +kernel
theorem dX3_tally_68 : decode cX3_tally 68 = .ok (.getfield 10, 3) := by decide +kernel
theorem dX3_tally_71 : decode cX3_tally 71 = .ok (.iload_n 1, 1) := by decide +kernel
theorem dX3_tally_72 : decode cX3_tally 72 = .ok (.bipush 9, 2) := by decide +kernel
theorem dX3_tally_74 : decode cX3_tally 74 = .ok (.invokevirtual 142, 3) := by decide +kernel
theorem dX3_tally_77 : decode cX3_tally 77 = .ok (.ireturn, 1) := by decide +kernel
theorem dX3_tally_78 : decode cX3_tally 78 = .ok (.aload_n 0, 1) := by decide +kernel
theorem dX3_tally_79 : decode cX3_tally 79 = .ok (.getfield 10, 3) := by decide +kernel
theorem dX3_tally_82 : decode cX3_tally 82 = .ok (.iload_n 1, 1) := by decide +kernel
theorem dX3_tally_83 : decode cX3_tally 83 = .ok (.invokevirtual 145, 3) := by decide +kernel
theorem dX3_tally_86 : decode cX3_tally 86 = .ok (.ireturn, 1) := by decide +kernel
theorem dX3_tally_87 : decode cX3_tally 87 = .ok (.aload_n 0, 1) := by decide +kernel
theorem dX3_tally_88 : decode cX3_tally 88 = .ok (.iload_n 1, 1) := by decide +kernel
theorem dX3_tally_89 : decode cX3_tally 89 = .ok (.iload_n 2, 1) := by decide +kernel
theorem dX3_tally_90 : decode cX3_tally 90 = .ok (.iconst 4, 1) := by decide +kernel
theorem dX3_tally_91 : decode cX3_tally 91 = .ok (.if_icmp .ne 7, 3) := by decide +kernel
theorem dX3_tally_94 : decode cX3_tally 94 = .ok (.iconst 1, 1) := by decide +kernel
theorem dX3_tally_95 : decode cX3_tally 95 = .ok (.goto 4, 3) := by decide +kernel
theorem dX3_tally_98 : decode cX3_tally 98 = .ok (.iconst 0, 1) := by decide +kernel
theorem dX3_tally_99 : decode cX3_tally 99 = .ok (.invokevirtual 148, 3) := by decide +kernel
theorem dX3_tally_102 : decode cX3_tally 102 = .ok (.ireturn, 1) := by decide +kernel
theorem dX3_tally_103 : decode cX3_tally 103 = .ok (.bipush (-2), 2) := by decide +kernel
theorem dX3_tally_105 : decode cX3_tally 105 = .ok (.ireturn, 1) := by decide +kernel
set_option maxRecDepth 20000 in
theorem ggX3_count_X3_isWithin : GoodIn wsX3_count wsX3_isWithin := goodIn_r _ [6] (by decide +kernel) (by decide +kernel)
set_option maxRecDepth 20000 in
theorem gX3_count_X3_isWithin : GoodIn wsX3_count (va_wsS RX3 56 yX3_isWithin wsX3_isWithin) := goodIn_app (goodIn_of _ (by decide +kernel)) ggX3_count_X3_isWithin
set_option maxRecDepth 20000 in
theorem ggX3_count_X0_burstsOfFate : GoodIn wsX3_count wsX0_burstsOfFate := goodIn_r _ [10, 11, 12, 13, 8, 14, 15, 16, 17, 18, 19, 20, 21, 5, 22, 40, 41, 42, 43, 44] (by decide +kernel) (by decide +kernel)
set_option maxRecDepth 20000 in
theorem gX3_count_X0_burstsOfFate_n152 : GoodIn wsX3_count (wsX0_burstsOfFate) := ggX3_count_X0_burstsOfFate
set_option maxRecDepth 20000 in
theorem ggX3_count_X0_ruleNow : GoodIn wsX3_count wsX0_ruleNow := goodIn_r _ [25, 26, 21, 5, 22, 40, 41, 42, 43, 44] (by decide +kernel) (by decide +kernel)
set_option maxRecDepth 20000 in
theorem gX3_count_X0_ruleNow_n155 : GoodIn wsX3_count (wsX0_ruleNow) := ggX3_count_X0_ruleNow
set_option maxRecDepth 20000 in
theorem ggX3_count_X0_lengthNow : GoodIn wsX3_count wsX0_lengthNow := goodIn_r _ [29, 30, 21, 5, 22, 40, 41, 42, 43, 44] (by decide +kernel) (by decide +kernel)
set_option maxRecDepth 20000 in
theorem gX3_count_X0_lengthNow_n158 : GoodIn wsX3_count (wsX0_lengthNow) := ggX3_count_X0_lengthNow
set_option maxRecDepth 20000 in
theorem ggX3_count_X0_burstsWith : GoodIn wsX3_count wsX0_burstsWith := goodIn_r _ [33, 15, 11, 12, 13, 8, 14, 16, 17, 18, 19, 20, 21, 5, 22, 40, 41, 42, 43, 44] (by decide +kernel) (by decide +kernel)
set_option maxRecDepth 20000 in
theorem gX3_count_X0_burstsWith_n161 : GoodIn wsX3_count (wsX0_burstsWith) := ggX3_count_X0_burstsWith
theorem dX3_count_0 : decode cX3_count 0 = .ok (.iload_n 1, 1) := by decide +kernel
theorem dX3_count_1 : decode cX3_count 1 = .ok (.iconst 2, 1) := by decide +kernel
theorem dX3_count_2 : decode cX3_count 2 = .ok (.bipush 6, 2) := by decide +kernel
theorem dX3_count_4 : decode cX3_count 4 = .ok (.invokestatic 56, 3) := by decide +kernel
theorem dX3_count_7 : decode cX3_count 7 = .ok (.ifCond .eq 14, 3) := by decide +kernel
theorem dX3_count_10 : decode cX3_count 10 = .ok (.aload_n 0, 1) := by decide +kernel
theorem dX3_count_11 : decode cX3_count 11 = .ok (.getfield 10, 3) := by decide +kernel
theorem dX3_count_14 : decode cX3_count 14 = .ok (.iload_n 1, 1) := by decide +kernel
theorem dX3_count_15 : decode cX3_count 15 = .ok (.iconst 2, 1) := by decide +kernel
theorem dX3_count_16 : decode cX3_count 16 = .ok (.isub, 1) := by decide +kernel
theorem dX3_count_17 : decode cX3_count 17 = .ok (.invokevirtual 152, 3) := by decide +kernel
theorem dX3_count_20 : decode cX3_count 20 = .ok (.ireturn, 1) := by decide +kernel
theorem dX3_count_21 : decode cX3_count 21 = .ok (.iload_n 1, 1) := by decide +kernel
theorem dX3_count_22 : decode cX3_count 22 = .ok (.bipush 10, 2) := by decide +kernel
theorem dX3_count_24 : decode cX3_count 24 = .ok (.bipush 15, 2) := by decide +kernel
theorem dX3_count_26 : decode cX3_count 26 = .ok (.invokestatic 56, 3) := by decide +kernel
theorem dX3_count_29 : decode cX3_count 29 = .ok (.ifCond .eq 15, 3) := by decide +kernel
theorem dX3_count_32 : decode cX3_count 32 = .ok (.aload_n 0, 1) := by decide +kernel
theorem dX3_count_33 : decode cX3_count 33 = .ok (.getfield 10, 3) := by decide +kernel
theorem dX3_count_36 : decode cX3_count 36 = .ok (.iload_n 1, 1) := by decide +kernel
theorem dX3_count_37 : decode cX3_count 37 = .ok (.bipush 10, 2) := by decide +kernel
theorem dX3_count_39 : decode cX3_count 39 = .ok (.isub, 1) := by decide +kernel
theorem dX3_count_40 : decode cX3_count 40 = .ok (.invokevirtual 155, 3) := by decide +kernel
theorem dX3_count_43 : decode cX3_count 43 = .ok (.ireturn, 1) := by decide +kernel
theorem dX3_count_44 : decode cX3_count 44 = .ok (.iload_n 1, 1) := by decide +kernel
theorem dX3_count_45 : decode cX3_count 45 = .ok (.bipush 20, 2) := by decide +kernel
theorem dX3_count_47 : decode cX3_count 47 = .ok (.bipush 22, 2) := by decide +kernel
theorem dX3_count_49 : decode cX3_count 49 = .ok (.invokestatic 56, 3) := by decide +kernel
theorem dX3_count_52 : decode cX3_count 52 = .ok (.ifCond .eq 15, 3) := by decide +kernel
theorem dX3_count_55 : decode cX3_count 55 = .ok (.aload_n 0, 1) := by decide +kernel
theorem dX3_count_56 : decode cX3_count 56 = .ok (.getfield 10, 3) := by decide +kernel
theorem dX3_count_59 : decode cX3_count 59 = .ok (.iload_n 1, 1) := by decide +kernel
theorem dX3_count_60 : decode cX3_count 60 = .ok (.bipush 20, 2) := by decide +kernel
theorem dX3_count_62 : decode cX3_count 62 = .ok (.isub, 1) := by decide +kernel
theorem dX3_count_63 : decode cX3_count 63 = .ok (.invokevirtual 158, 3) := by decide +kernel
theorem dX3_count_66 : decode cX3_count 66 = .ok (.ireturn, 1) := by decide +kernel
theorem dX3_count_67 : decode cX3_count 67 = .ok (.iload_n 1, 1) := by decide +kernel
theorem dX3_count_68 : decode cX3_count 68 = .ok (.tableswitch 97 0 9 #[56, 64, 97, 97, 97, 97, 97, 72, 82, 92], 56) := by decide +kernel
theorem dX3_count_124 : decode cX3_count 124 = .ok (.aload_n 0, 1) := by decide +kernel
theorem dX3_count_125 : decode cX3_count 125 = .ok (.getfield 10, 3) := by decide +kernel
theorem dX3_count_128 : decode cX3_count 128 = .ok (.getfield 68, 3) := by decide +kernel
theorem dX3_count_131 : decode cX3_count 131 = .ok (.ireturn, 1) := by decide +kernel
theorem dX3_count_132 : decode cX3_count 132 = .ok (.aload_n 0, 1) := by decide +kernel
theorem dX3_count_133 : decode cX3_count 133 = .ok (.getfield 10, 3) := by decide +kernel
theorem dX3_count_136 : decode cX3_count 136 = .ok (.getfield 78, 3) := by decide +kernel
theorem dX3_count_139 : decode cX3_count 139 = .ok (.ireturn, 1) := by decide +kernel
theorem dX3_count_140 : decode cX3_count 140 = .ok (.aload_n 0, 1) := by decide +kernel
theorem dX3_count_141 : decode cX3_count 141 = .ok (.getfield 10, 3) := by decide +kernel
theorem dX3_count_144 : decode cX3_count 144 = .ok (.bipush 7, 2) := by decide +kernel
theorem dX3_count_146 : decode cX3_count 146 = .ok (.invokevirtual 161, 3) := by decide +kernel
theorem dX3_count_149 : decode cX3_count 149 = .ok (.ireturn, 1) := by decide +kernel
theorem dX3_count_150 : decode cX3_count 150 = .ok (.aload_n 0, 1) := by decide +kernel
theorem dX3_count_151 : decode cX3_count 151 = .ok (.getfield 10, 3) := by decide +kernel
theorem dX3_count_154 : decode cX3_count 154 = .ok (.bipush 10, 2) := by decide +kernel
theorem dX3_count_156 : decode cX3_count 156 = .ok (.invokevirtual 161, 3) := by decide +kernel
theorem dX3_count_159 : decode cX3_count 159 = .ok (.ireturn, 1) := by decide +kernel
theorem dX3_count_160 : decode cX3_count 160 = .ok (.aload_n 0, 1) := by decide +kernel
theorem dX3_count_161 : decode cX3_count 161 = .ok (.getfield 22, 3) := by decide +kernel
theorem dX3_count_164 : decode cX3_count 164 = .ok (.ireturn, 1) := by decide +kernel
theorem dX3_count_165 : decode cX3_count 165 = .ok (.bipush (-2), 2) := by decide +kernel
theorem dX3_count_167 : decode cX3_count 167 = .ok (.ireturn, 1) := by decide +kernel
set_option maxRecDepth 20000 in
theorem ggX3_image_X3_isBelow : GoodIn wsX3_image wsX3_isBelow := goodIn_r _ [6] (by decide +kernel) (by decide +kernel)
set_option maxRecDepth 20000 in
theorem gX3_image_X3_isBelow : GoodIn wsX3_image (va_wsS RX3 42 yX3_isBelow wsX3_isBelow) := goodIn_app (goodIn_of _ (by decide +kernel)) ggX3_image_X3_isBelow
set_option maxRecDepth 20000 in
theorem ggX3_image_X3_imageOf : GoodIn wsX3_image wsX3_imageOf := goodIn_r _ [10, 11, 12, 26, 27, 28, 29, 30, 31] (by decide +kernel) (by decide +kernel)
set_option maxRecDepth 20000 in
theorem gX3_image_X3_imageOf : GoodIn wsX3_image (wsV RX3 164 RX3 yX3_imageOf wsX3_imageOf) := goodIn_app (goodIn_of _ (by decide +kernel)) ggX3_image_X3_imageOf
set_option maxRecDepth 20000 in
theorem ggX3_image_X0_copyFrom : GoodIn wsX3_image wsX0_copyFrom := goodIn_r _ [16, 17, 18, 19, 20, 21, 22, 23, 24, 25, 32, 33, 34, 35, 36] (by decide +kernel) (by decide +kernel)
set_option maxRecDepth 20000 in
theorem gX3_image_X0_copyFrom_n168 : GoodIn wsX3_image (wsX0_copyFrom) := ggX3_image_X0_copyFrom
theorem dX3_image_0 : decode cX3_image 0 = .ok (.iload_n 1, 1) := by decide +kernel
theorem dX3_image_1 : decode cX3_image 1 = .ok (.iconst 2, 1) := by decide +kernel
theorem dX3_image_2 : decode cX3_image 2 = .ok (.invokestatic 42, 3) := by decide +kernel
theorem dX3_image_5 : decode cX3_image 5 = .ok (.ifCond .ne 6, 3) := by decide +kernel
theorem dX3_image_8 : decode cX3_image 8 = .ok (.bipush (-2), 2) := by decide +kernel
theorem dX3_image_10 : decode cX3_image 10 = .ok (.ireturn, 1) := by decide +kernel
theorem dX3_image_11 : decode cX3_image 11 = .ok (.aload_n 0, 1) := by decide +kernel
theorem dX3_image_12 : decode cX3_image 12 = .ok (.iload_n 1, 1) := by decide +kernel
theorem dX3_image_13 : decode cX3_image 13 = .ok (.invokevirtual 164, 3) := by decide +kernel
theorem dX3_image_16 : decode cX3_image 16 = .ok (.aload_n 0, 1) := by decide +kernel
theorem dX3_image_17 : decode cX3_image 17 = .ok (.getfield 10, 3) := by decide +kernel
theorem dX3_image_20 : decode cX3_image 20 = .ok (.invokevirtual 168, 3) := by decide +kernel
theorem dX3_image_23 : decode cX3_image 23 = .ok (.aload_n 0, 1) := by decide +kernel
theorem dX3_image_24 : decode cX3_image 24 = .ok (.dup, 1) := by decide +kernel
theorem dX3_image_25 : decode cX3_image 25 = .ok (.getfield 22, 3) := by decide +kernel
theorem dX3_image_28 : decode cX3_image 28 = .ok (.iconst 1, 1) := by decide +kernel
theorem dX3_image_29 : decode cX3_image 29 = .ok (.iload_n 1, 1) := by decide +kernel
theorem dX3_image_30 : decode cX3_image 30 = .ok (.ishl, 1) := by decide +kernel
theorem dX3_image_31 : decode cX3_image 31 = .ok (.ior, 1) := by decide +kernel
theorem dX3_image_32 : decode cX3_image 32 = .ok (.putfield 22, 3) := by decide +kernel
theorem dX3_image_35 : decode cX3_image 35 = .ok (.iconst 1, 1) := by decide +kernel
theorem dX3_image_36 : decode cX3_image 36 = .ok (.ireturn, 1) := by decide +kernel
set_option maxRecDepth 20000 in
theorem ggX3_restore_X3_isBelow : GoodIn wsX3_restore wsX3_isBelow := goodIn_r _ [6] (by decide +kernel) (by decide +kernel)
set_option maxRecDepth 20000 in
theorem gX3_restore_X3_isBelow : GoodIn wsX3_restore (va_wsS RX3 42 yX3_isBelow wsX3_isBelow) := goodIn_app (goodIn_of _ (by decide +kernel)) ggX3_restore_X3_isBelow
set_option maxRecDepth 20000 in
theorem ggX3_restore_X3_imageOf : GoodIn wsX3_restore wsX3_imageOf := goodIn_r _ [10, 11, 12, 26, 27, 28, 29, 30, 31] (by decide +kernel) (by decide +kernel)
set_option maxRecDepth 20000 in
theorem gX3_restore_X3_imageOf : GoodIn wsX3_restore (wsV RX3 164 RX3 yX3_imageOf wsX3_imageOf) := goodIn_app (goodIn_of _ (by decide +kernel)) ggX3_restore_X3_imageOf
set_option maxRecDepth 20000 in
theorem ggX3_restore_X0_copyFrom : GoodIn wsX3_restore wsX0_copyFrom := goodIn_r _ [16, 17, 18, 19, 20, 21, 22, 23, 24, 25, 32, 33, 34, 35, 36] (by decide +kernel) (by decide +kernel)
set_option maxRecDepth 20000 in
theorem gX3_restore_X0_copyFrom_n168 : GoodIn wsX3_restore (wsX0_copyFrom) := ggX3_restore_X0_copyFrom
theorem dX3_restore_0 : decode cX3_restore 0 = .ok (.iload_n 1, 1) := by decide +kernel
theorem dX3_restore_1 : decode cX3_restore 1 = .ok (.iconst 2, 1) := by decide +kernel
theorem dX3_restore_2 : decode cX3_restore 2 = .ok (.invokestatic 42, 3) := by decide +kernel
theorem dX3_restore_5 : decode cX3_restore 5 = .ok (.ifCond .ne 6, 3) := by decide +kernel
theorem dX3_restore_8 : decode cX3_restore 8 = .ok (.bipush (-2), 2) := by decide +kernel
theorem dX3_restore_10 : decode cX3_restore 10 = .ok (.ireturn, 1) := by decide +kernel
theorem dX3_restore_11 : decode cX3_restore 11 = .ok (.aload_n 0, 1) := by decide +kernel
theorem dX3_restore_12 : decode cX3_restore 12 = .ok (.getfield 22, 3) := by decide +kernel
theorem dX3_restore_15 : decode cX3_restore 15 = .ok (.iconst 1, 1) := by decide +kernel
theorem dX3_restore_16 : decode cX3_restore 16 = .ok (.iload_n 1, 1) := by decide +kernel
theorem dX3_restore_17 : decode cX3_restore 17 = .ok (.ishl, 1) := by decide +kernel
theorem dX3_restore_18 : decode cX3_restore 18 = .ok (.iand, 1) := by decide +kernel
theorem dX3_restore_19 : decode cX3_restore 19 = .ok (.ifCond .ne 6, 3) := by decide +kernel
theorem dX3_restore_22 : decode cX3_restore 22 = .ok (.bipush (-3), 2) := by decide +kernel
theorem dX3_restore_24 : decode cX3_restore 24 = .ok (.ireturn, 1) := by decide +kernel
theorem dX3_restore_25 : decode cX3_restore 25 = .ok (.aload_n 0, 1) := by decide +kernel
theorem dX3_restore_26 : decode cX3_restore 26 = .ok (.getfield 10, 3) := by decide +kernel
theorem dX3_restore_29 : decode cX3_restore 29 = .ok (.aload_n 0, 1) := by decide +kernel
theorem dX3_restore_30 : decode cX3_restore 30 = .ok (.iload_n 1, 1) := by decide +kernel
theorem dX3_restore_31 : decode cX3_restore 31 = .ok (.invokevirtual 164, 3) := by decide +kernel
theorem dX3_restore_34 : decode cX3_restore 34 = .ok (.invokevirtual 168, 3) := by decide +kernel
theorem dX3_restore_37 : decode cX3_restore 37 = .ok (.iconst 1, 1) := by decide +kernel
theorem dX3_restore_38 : decode cX3_restore 38 = .ok (.ireturn, 1) := by decide +kernel
theorem dX3_imageOf_0 : decode cX3_imageOf 0 = .ok (.iload_n 1, 1) := by decide +kernel
theorem dX3_imageOf_1 : decode cX3_imageOf 1 = .ok (.ifCond .ne 10, 3) := by decide +kernel
theorem dX3_imageOf_4 : decode cX3_imageOf 4 = .ok (.aload_n 0, 1) := by decide +kernel
theorem dX3_imageOf_5 : decode cX3_imageOf 5 = .ok (.getfield 16, 3) := by decide +kernel
theorem dX3_imageOf_8 : decode cX3_imageOf 8 = .ok (.goto 7, 3) := by decide +kernel
theorem dX3_imageOf_11 : decode cX3_imageOf 11 = .ok (.aload_n 0, 1) := by decide +kernel
theorem dX3_imageOf_12 : decode cX3_imageOf 12 = .ok (.getfield 19, 3) := by decide +kernel
theorem dX3_imageOf_15 : decode cX3_imageOf 15 = .ok (.areturn, 1) := by decide +kernel
set_option maxRecDepth 20000 in
theorem ggX3_ofBooking_X2_begin : GoodIn wsX3_ofBooking wsX2_begin := goodIn_r _ [5, 6, 7, 8, 9, 3, 10, 11, 12, 13, 14, 29, 30, 31, 32] (by decide +kernel) (by decide +kernel)
set_option maxRecDepth 20000 in
theorem gX3_ofBooking_X2_begin_n135 : GoodIn wsX3_ofBooking (wsX2_begin) := ggX3_ofBooking_X2_begin
set_option maxRecDepth 20000 in
theorem ggX3_ofBooking_X2_ticks : GoodIn wsX3_ofBooking wsX2_ticks := goodIn_r _ [17, 18, 6, 7, 8, 9, 3, 10, 11, 12, 13, 14, 29, 30, 31, 32] (by decide +kernel) (by decide +kernel)
set_option maxRecDepth 20000 in
theorem gX3_ofBooking_X2_ticks_n172 : GoodIn wsX3_ofBooking (wsX2_ticks) := ggX3_ofBooking_X2_ticks
set_option maxRecDepth 20000 in
theorem ggX3_ofBooking_X2_burstOf : GoodIn wsX3_ofBooking wsX2_burstOf := goodIn_r _ [21, 22, 7, 8, 9, 3, 10, 11, 12, 13, 14, 29, 30, 31, 32] (by decide +kernel) (by decide +kernel)
set_option maxRecDepth 20000 in
theorem gX3_ofBooking_X2_burstOf_n175 : GoodIn wsX3_ofBooking (wsX2_burstOf) := ggX3_ofBooking_X2_burstOf
theorem dX3_ofBooking_0 : decode cX3_ofBooking 0 = .ok (.iload_n 2, 1) := by decide +kernel
theorem dX3_ofBooking_1 : decode cX3_ofBooking 1 = .ok (.tableswitch 54 0 2 #[27, 36, 45], 27) := by decide +kernel
theorem dX3_ofBooking_28 : decode cX3_ofBooking 28 = .ok (.aload_n 0, 1) := by decide +kernel
theorem dX3_ofBooking_29 : decode cX3_ofBooking 29 = .ok (.getfield 29, 3) := by decide +kernel
theorem dX3_ofBooking_32 : decode cX3_ofBooking 32 = .ok (.iload_n 1, 1) := by decide +kernel
theorem dX3_ofBooking_33 : decode cX3_ofBooking 33 = .ok (.invokevirtual 135, 3) := by decide +kernel
theorem dX3_ofBooking_36 : decode cX3_ofBooking 36 = .ok (.ireturn, 1) := by decide +kernel
theorem dX3_ofBooking_37 : decode cX3_ofBooking 37 = .ok (.aload_n 0, 1) := by decide +kernel
theorem dX3_ofBooking_38 : decode cX3_ofBooking 38 = .ok (.getfield 29, 3) := by decide +kernel
theorem dX3_ofBooking_41 : decode cX3_ofBooking 41 = .ok (.iload_n 1, 1) := by decide +kernel
theorem dX3_ofBooking_42 : decode cX3_ofBooking 42 = .ok (.invokevirtual 172, 3) := by decide +kernel
theorem dX3_ofBooking_45 : decode cX3_ofBooking 45 = .ok (.ireturn, 1) := by decide +kernel
theorem dX3_ofBooking_46 : decode cX3_ofBooking 46 = .ok (.aload_n 0, 1) := by decide +kernel
theorem dX3_ofBooking_47 : decode cX3_ofBooking 47 = .ok (.getfield 29, 3) := by decide +kernel
theorem dX3_ofBooking_50 : decode cX3_ofBooking 50 = .ok (.iload_n 1, 1) := by decide +kernel
theorem dX3_ofBooking_51 : decode cX3_ofBooking 51 = .ok (.invokevirtual 175, 3) := by decide +kernel
theorem dX3_ofBooking_54 : decode cX3_ofBooking 54 = .ok (.ireturn, 1) := by decide +kernel
theorem dX3_ofBooking_55 : decode cX3_ofBooking 55 = .ok (.bipush (-2), 2) := by decide +kernel
theorem dX3_ofBooking_57 : decode cX3_ofBooking 57 = .ok (.ireturn, 1) := by decide +kernel
set_option maxRecDepth 20000 in
theorem ggX3_partLost_X0_sumOfClass : GoodIn wsX3_partLost wsX0_sumOfClass := goodIn_r _ [5, 6, 7, 8, 9, 3, 10, 11, 12, 13, 14, 15, 16, 17, 18, 28, 29, 30, 31, 32] (by decide +kernel) (by decide +kernel)
set_option maxRecDepth 20000 in
theorem gX3_partLost_X0_sumOfClass_n142 : GoodIn wsX3_partLost (wsX0_sumOfClass) := ggX3_partLost_X0_sumOfClass
set_option maxRecDepth 20000 in
theorem ggX3_partLost_X3_commonDivisor : GoodIn wsX3_partLost wsX3_commonDivisor := goodIn_r _ [21] (by decide +kernel) (by decide +kernel)
set_option maxRecDepth 20000 in
theorem gX3_partLost_X3_commonDivisor : GoodIn wsX3_partLost (va_wsS RX3 178 yX3_commonDivisor wsX3_commonDivisor) := goodIn_app (goodIn_of _ (by decide +kernel)) ggX3_partLost_X3_commonDivisor
theorem dX3_partLost_0 : decode cX3_partLost 0 = .ok (.aload_n 0, 1) := by decide +kernel
theorem dX3_partLost_1 : decode cX3_partLost 1 = .ok (.getfield 10, 3) := by decide +kernel
theorem dX3_partLost_4 : decode cX3_partLost 4 = .ok (.iload_n 1, 1) := by decide +kernel
theorem dX3_partLost_5 : decode cX3_partLost 5 = .ok (.iconst 4, 1) := by decide +kernel
theorem dX3_partLost_6 : decode cX3_partLost 6 = .ok (.invokevirtual 142, 3) := by decide +kernel
theorem dX3_partLost_9 : decode cX3_partLost 9 = .ok (.istore_n 3, 1) := by decide +kernel
theorem dX3_partLost_10 : decode cX3_partLost 10 = .ok (.iload_n 3, 1) := by decide +kernel
theorem dX3_partLost_11 : decode cX3_partLost 11 = .ok (.aload_n 0, 1) := by decide +kernel
theorem dX3_partLost_12 : decode cX3_partLost 12 = .ok (.getfield 10, 3) := by decide +kernel
theorem dX3_partLost_15 : decode cX3_partLost 15 = .ok (.iload_n 1, 1) := by decide +kernel
theorem dX3_partLost_16 : decode cX3_partLost 16 = .ok (.bipush 9, 2) := by decide +kernel
theorem dX3_partLost_18 : decode cX3_partLost 18 = .ok (.invokevirtual 142, 3) := by decide +kernel
theorem dX3_partLost_21 : decode cX3_partLost 21 = .ok (.isub, 1) := by decide +kernel
theorem dX3_partLost_22 : decode cX3_partLost 22 = .ok (.istore 4, 2) := by decide +kernel
theorem dX3_partLost_24 : decode cX3_partLost 24 = .ok (.iload_n 3, 1) := by decide +kernel
theorem dX3_partLost_25 : decode cX3_partLost 25 = .ok (.iload 4, 2) := by decide +kernel
theorem dX3_partLost_27 : decode cX3_partLost 27 = .ok (.invokestatic 178, 3) := by decide +kernel
theorem dX3_partLost_30 : decode cX3_partLost 30 = .ok (.istore 5, 2) := by decide +kernel
theorem dX3_partLost_32 : decode cX3_partLost 32 = .ok (.iload_n 3, 1) := by decide +kernel
theorem dX3_partLost_33 : decode cX3_partLost 33 = .ok (.ifCond .eq 8, 3) := by decide +kernel
theorem dX3_partLost_36 : decode cX3_partLost 36 = .ok (.iload 5, 2) := by decide +kernel
theorem dX3_partLost_38 : decode cX3_partLost 38 = .ok (.ifCond .ne 6, 3) := by decide +kernel
theorem dX3_partLost_41 : decode cX3_partLost 41 = .ok (.bipush (-6), 2) := by decide +kernel
theorem dX3_partLost_43 : decode cX3_partLost 43 = .ok (.ireturn, 1) := by decide +kernel
theorem dX3_partLost_44 : decode cX3_partLost 44 = .ok (.iload_n 2, 1) := by decide +kernel
theorem dX3_partLost_45 : decode cX3_partLost 45 = .ok (.ifCond .eq 8, 3) := by decide +kernel
theorem dX3_partLost_48 : decode cX3_partLost 48 = .ok (.iload 4, 2) := by decide +kernel
theorem dX3_partLost_50 : decode cX3_partLost 50 = .ok (.goto 4, 3) := by decide +kernel
theorem dX3_partLost_53 : decode cX3_partLost 53 = .ok (.iload_n 3, 1) := by decide +kernel
theorem dX3_partLost_54 : decode cX3_partLost 54 = .ok (.iload 5, 2) := by decide +kernel
theorem dX3_partLost_56 : decode cX3_partLost 56 = .ok (.idiv, 1) := by decide +kernel
theorem dX3_partLost_57 : decode cX3_partLost 57 = .ok (.ireturn, 1) := by decide +kernel
theorem dX3_commonDivisor_0 : decode cX3_commonDivisor 0 = .ok (.iload_n 0, 1) := by decide +kernel
theorem dX3_commonDivisor_1 : decode cX3_commonDivisor 1 = .ok (.istore_n 2, 1) := by decide +kernel
theorem dX3_commonDivisor_2 : decode cX3_commonDivisor 2 = .ok (.iload_n 1, 1) := by decide +kernel
theorem dX3_commonDivisor_3 : decode cX3_commonDivisor 3 = .ok (.istore_n 3, 1) := by decide +kernel
theorem dX3_commonDivisor_4 : decode cX3_commonDivisor 4 = .ok (.iconst 0, 1) := by decide +kernel
theorem dX3_commonDivisor_5 : decode cX3_commonDivisor 5 = .ok (.istore 4, 2) := by decide +kernel
theorem dX3_commonDivisor_7 : decode cX3_commonDivisor 7 = .ok (.iload 4, 2) := by decide +kernel
theorem dX3_commonDivisor_9 : decode cX3_commonDivisor 9 = .ok (.bipush 64, 2) := by decide +kernel
theorem dX3_commonDivisor_11 : decode cX3_commonDivisor 11 = .ok (.if_icmp .ge 23, 3) := by decide +kernel
theorem dX3_commonDivisor_14 : decode cX3_commonDivisor 14 = .ok (.iload_n 3, 1) := by decide +kernel
theorem dX3_commonDivisor_15 : decode cX3_commonDivisor 15 = .ok (.ifCond .eq 19, 3) := by decide +kernel
theorem dX3_commonDivisor_18 : decode cX3_commonDivisor 18 = .ok (.iload_n 2, 1) := by decide +kernel
theorem dX3_commonDivisor_19 : decode cX3_commonDivisor 19 = .ok (.iload_n 3, 1) := by decide +kernel
theorem dX3_commonDivisor_20 : decode cX3_commonDivisor 20 = .ok (.irem, 1) := by decide +kernel
theorem dX3_commonDivisor_21 : decode cX3_commonDivisor 21 = .ok (.istore 5, 2) := by decide +kernel
theorem dX3_commonDivisor_23 : decode cX3_commonDivisor 23 = .ok (.iload_n 3, 1) := by decide +kernel
theorem dX3_commonDivisor_24 : decode cX3_commonDivisor 24 = .ok (.istore_n 2, 1) := by decide +kernel
theorem dX3_commonDivisor_25 : decode cX3_commonDivisor 25 = .ok (.iload 5, 2) := by decide +kernel
theorem dX3_commonDivisor_27 : decode cX3_commonDivisor 27 = .ok (.istore_n 3, 1) := by decide +kernel
theorem dX3_commonDivisor_28 : decode cX3_commonDivisor 28 = .ok (.iinc 4 1, 3) := by decide +kernel
theorem dX3_commonDivisor_31 : decode cX3_commonDivisor 31 = .ok (.goto (-24), 3) := by decide +kernel
theorem dX3_commonDivisor_34 : decode cX3_commonDivisor 34 = .ok (.iload_n 2, 1) := by decide +kernel
theorem dX3_commonDivisor_35 : decode cX3_commonDivisor 35 = .ok (.ireturn, 1) := by decide +kernel
set_option maxRecDepth 20000 in
theorem ggX3_refusalOfBurst_X3_isColour : GoodIn wsX3_refusalOfBurst wsX3_isColour := goodIn_r _ [4, 5, 6, 3, 7] (by decide +kernel) (by decide +kernel)
set_option maxRecDepth 20000 in
theorem gX3_refusalOfBurst_X3_isColour : GoodIn wsX3_refusalOfBurst (va_wsS RX3 106 yX3_isColour wsX3_isColour) := goodIn_app (goodIn_of _ (by decide +kernel)) ggX3_refusalOfBurst_X3_isColour
set_option maxRecDepth 20000 in
theorem ggX3_refusalOfBurst_X3_isBelow : GoodIn wsX3_refusalOfBurst wsX3_isBelow := goodIn_r _ [7] (by decide +kernel) (by decide +kernel)
set_option maxRecDepth 20000 in
theorem gX3_refusalOfBurst_X3_isBelow : GoodIn wsX3_refusalOfBurst (va_wsS RX3 42 yX3_isBelow wsX3_isBelow) := goodIn_app (goodIn_of _ (by decide +kernel)) ggX3_refusalOfBurst_X3_isBelow
set_option maxRecDepth 20000 in
theorem ggX3_refusalOfBurst_X3_isWithin : GoodIn wsX3_refusalOfBurst wsX3_isWithin := goodIn_r _ [10] (by decide +kernel) (by decide +kernel)
set_option maxRecDepth 20000 in
theorem gX3_refusalOfBurst_X3_isWithin : GoodIn wsX3_refusalOfBurst (va_wsS RX3 56 yX3_isWithin wsX3_isWithin) := goodIn_app (goodIn_of _ (by decide +kernel)) ggX3_refusalOfBurst_X3_isWithin
theorem dX3_refusalOfBurst_0 : decode cX3_refusalOfBurst 0 = .ok (.iload_n 0, 1) := by decide +kernel
theorem dX3_refusalOfBurst_1 : decode cX3_refusalOfBurst 1 = .ok (.iload_n 1, 1) := by decide +kernel
theorem dX3_refusalOfBurst_2 : decode cX3_refusalOfBurst 2 = .ok (.invokestatic 106, 3) := by decide +kernel
theorem dX3_refusalOfBurst_5 : decode cX3_refusalOfBurst 5 = .ok (.ifCond .eq 11, 3) := by decide +kernel
theorem dX3_refusalOfBurst_8 : decode cX3_refusalOfBurst 8 = .ok (.iload_n 2, 1) := by decide +kernel
theorem dX3_refusalOfBurst_9 : decode cX3_refusalOfBurst 9 = .ok (.iconst 3, 1) := by decide +kernel
theorem dX3_refusalOfBurst_10 : decode cX3_refusalOfBurst 10 = .ok (.invokestatic 42, 3) := by decide +kernel
theorem dX3_refusalOfBurst_13 : decode cX3_refusalOfBurst 13 = .ok (.ifCond .ne 5, 3) := by decide +kernel
theorem dX3_refusalOfBurst_16 : decode cX3_refusalOfBurst 16 = .ok (.iconst (-1), 1) := by decide +kernel
theorem dX3_refusalOfBurst_17 : decode cX3_refusalOfBurst 17 = .ok (.ireturn, 1) := by decide +kernel
theorem dX3_refusalOfBurst_18 : decode cX3_refusalOfBurst 18 = .ok (.iload_n 3, 1) := by decide +kernel
theorem dX3_refusalOfBurst_19 : decode cX3_refusalOfBurst 19 = .ok (.iconst 1, 1) := by decide +kernel
theorem dX3_refusalOfBurst_20 : decode cX3_refusalOfBurst 20 = .ok (.iconst 5, 1) := by decide +kernel
theorem dX3_refusalOfBurst_21 : decode cX3_refusalOfBurst 21 = .ok (.invokestatic 56, 3) := by decide +kernel
theorem dX3_refusalOfBurst_24 : decode cX3_refusalOfBurst 24 = .ok (.ifCond .eq 14, 3) := by decide +kernel
theorem dX3_refusalOfBurst_27 : decode cX3_refusalOfBurst 27 = .ok (.iload 4, 2) := by decide +kernel
theorem dX3_refusalOfBurst_29 : decode cX3_refusalOfBurst 29 = .ok (.iconst 1, 1) := by decide +kernel
theorem dX3_refusalOfBurst_30 : decode cX3_refusalOfBurst 30 = .ok (.bipush 60, 2) := by decide +kernel
theorem dX3_refusalOfBurst_32 : decode cX3_refusalOfBurst 32 = .ok (.invokestatic 56, 3) := by decide +kernel
theorem dX3_refusalOfBurst_35 : decode cX3_refusalOfBurst 35 = .ok (.ifCond .ne 6, 3) := by decide +kernel
theorem dX3_refusalOfBurst_38 : decode cX3_refusalOfBurst 38 = .ok (.bipush (-2), 2) := by decide +kernel
theorem dX3_refusalOfBurst_40 : decode cX3_refusalOfBurst 40 = .ok (.ireturn, 1) := by decide +kernel
theorem dX3_refusalOfBurst_41 : decode cX3_refusalOfBurst 41 = .ok (.iconst 0, 1) := by decide +kernel
theorem dX3_refusalOfBurst_42 : decode cX3_refusalOfBurst 42 = .ok (.ireturn, 1) := by decide +kernel
set_option maxRecDepth 20000 in
theorem ggX3_isColour_X3_isBelow : GoodIn wsX3_isColour wsX3_isBelow := goodIn_r _ [4] (by decide +kernel) (by decide +kernel)
set_option maxRecDepth 20000 in
theorem gX3_isColour_X3_isBelow : GoodIn wsX3_isColour (va_wsS RX3 42 yX3_isBelow wsX3_isBelow) := goodIn_app (goodIn_of _ (by decide +kernel)) ggX3_isColour_X3_isBelow
theorem dX3_isColour_0 : decode cX3_isColour 0 = .ok (.iload_n 0, 1) := by decide +kernel
theorem dX3_isColour_1 : decode cX3_isColour 1 = .ok (.iconst 2, 1) := by decide +kernel
theorem dX3_isColour_2 : decode cX3_isColour 2 = .ok (.invokestatic 42, 3) := by decide +kernel
theorem dX3_isColour_5 : decode cX3_isColour 5 = .ok (.ifCond .eq 16, 3) := by decide +kernel
theorem dX3_isColour_8 : decode cX3_isColour 8 = .ok (.iload_n 1, 1) := by decide +kernel
theorem dX3_isColour_9 : decode cX3_isColour 9 = .ok (.bipush 6, 2) := by decide +kernel
theorem dX3_isColour_11 : decode cX3_isColour 11 = .ok (.invokestatic 42, 3) := by decide +kernel
theorem dX3_isColour_14 : decode cX3_isColour 14 = .ok (.ifCond .eq 7, 3) := by decide +kernel
theorem dX3_isColour_17 : decode cX3_isColour 17 = .ok (.iconst 1, 1) := by decide +kernel
theorem dX3_isColour_18 : decode cX3_isColour 18 = .ok (.goto 4, 3) := by decide +kernel
theorem dX3_isColour_21 : decode cX3_isColour 21 = .ok (.iconst 0, 1) := by decide +kernel
theorem dX3_isColour_22 : decode cX3_isColour 22 = .ok (.ireturn, 1) := by decide +kernel
set_option maxRecDepth 20000 in
theorem ggX3_isSpan_X3_isWithin : GoodIn wsX3_isSpan wsX3_isWithin := goodIn_r _ [4] (by decide +kernel) (by decide +kernel)
set_option maxRecDepth 20000 in
theorem gX3_isSpan_X3_isWithin : GoodIn wsX3_isSpan (va_wsS RX3 56 yX3_isWithin wsX3_isWithin) := goodIn_app (goodIn_of _ (by decide +kernel)) ggX3_isSpan_X3_isWithin
theorem dX3_isSpan_0 : decode cX3_isSpan 0 = .ok (.iload_n 0, 1) := by decide +kernel
theorem dX3_isSpan_1 : decode cX3_isSpan 1 = .ok (.iconst 0, 1) := by decide +kernel
theorem dX3_isSpan_2 : decode cX3_isSpan 2 = .ok (.sipush 20000, 3) := by decide +kernel
theorem dX3_isSpan_5 : decode cX3_isSpan 5 = .ok (.invokestatic 56, 3) := by decide +kernel
theorem dX3_isSpan_8 : decode cX3_isSpan 8 = .ok (.ifCond .eq 18, 3) := by decide +kernel
theorem dX3_isSpan_11 : decode cX3_isSpan 11 = .ok (.iload_n 1, 1) := by decide +kernel
theorem dX3_isSpan_12 : decode cX3_isSpan 12 = .ok (.iconst 1, 1) := by decide +kernel
theorem dX3_isSpan_13 : decode cX3_isSpan 13 = .ok (.sipush 2000, 3) := by decide +kernel
theorem dX3_isSpan_16 : decode cX3_isSpan 16 = .ok (.invokestatic 56, 3) := by decide +kernel
theorem dX3_isSpan_19 : decode cX3_isSpan 19 = .ok (.ifCond .eq 7, 3) := by decide +kernel
theorem dX3_isSpan_22 : decode cX3_isSpan 22 = .ok (.iconst 1, 1) := by decide +kernel
theorem dX3_isSpan_23 : decode cX3_isSpan 23 = .ok (.goto 4, 3) := by decide +kernel
theorem dX3_isSpan_26 : decode cX3_isSpan 26 = .ok (.iconst 0, 1) := by decide +kernel
theorem dX3_isSpan_27 : decode cX3_isSpan 27 = .ok (.ireturn, 1) := by decide +kernel
theorem dX3_isBelow_0 : decode cX3_isBelow 0 = .ok (.iload_n 0, 1) := by decide +kernel
theorem dX3_isBelow_1 : decode cX3_isBelow 1 = .ok (.ifCond .lt 12, 3) := by decide +kernel
theorem dX3_isBelow_4 : decode cX3_isBelow 4 = .ok (.iload_n 0, 1) := by decide +kernel
theorem dX3_isBelow_5 : decode cX3_isBelow 5 = .ok (.iload_n 1, 1) := by decide +kernel
theorem dX3_isBelow_6 : decode cX3_isBelow 6 = .ok (.if_icmp .ge 7, 3) := by decide +kernel
theorem dX3_isBelow_9 : decode cX3_isBelow 9 = .ok (.iconst 1, 1) := by decide +kernel
theorem dX3_isBelow_10 : decode cX3_isBelow 10 = .ok (.goto 4, 3) := by decide +kernel
theorem dX3_isBelow_13 : decode cX3_isBelow 13 = .ok (.iconst 0, 1) := by decide +kernel
theorem dX3_isBelow_14 : decode cX3_isBelow 14 = .ok (.ireturn, 1) := by decide +kernel
theorem dX3_isWithin_0 : decode cX3_isWithin 0 = .ok (.iload_n 0, 1) := by decide +kernel
theorem dX3_isWithin_1 : decode cX3_isWithin 1 = .ok (.iload_n 1, 1) := by decide +kernel
theorem dX3_isWithin_2 : decode cX3_isWithin 2 = .ok (.if_icmp .lt 12, 3) := by decide +kernel
theorem dX3_isWithin_5 : decode cX3_isWithin 5 = .ok (.iload_n 0, 1) := by decide +kernel
theorem dX3_isWithin_6 : decode cX3_isWithin 6 = .ok (.iload_n 2, 1) := by decide +kernel
theorem dX3_isWithin_7 : decode cX3_isWithin 7 = .ok (.if_icmp .gt 7, 3) := by decide +kernel
theorem dX3_isWithin_10 : decode cX3_isWithin 10 = .ok (.iconst 1, 1) := by decide +kernel
theorem dX3_isWithin_11 : decode cX3_isWithin 11 = .ok (.goto 4, 3) := by decide +kernel
theorem dX3_isWithin_14 : decode cX3_isWithin 14 = .ok (.iconst 0, 1) := by decide +kernel
theorem dX3_isWithin_15 : decode cX3_isWithin 15 = .ok (.ireturn, 1) := by decide +kernel
end
section
theorem dX4_init_0 : decode cX4_init 0 = .ok (.aload_n 0, 1) := by decide +kernel
theorem dX4_init_1 : decode cX4_init 1 = .ok (.invokespecial 1, 3) := by decide +kernel
theorem dX4_init_4 : decode cX4_init 4 = .ok (.aload_n 0, 1) := by decide +kernel
theorem dX4_init_5 : decode cX4_init 5 = .ok (.sipush 539, 3) := by decide +kernel
theorem dX4_init_8 : decode cX4_init 8 = .ok (.newarray .int, 2) := by decide +kernel
theorem dX4_init_10 : decode cX4_init 10 = .ok (.putfield 7, 3) := by decide +kernel
theorem dX4_init_13 : decode cX4_init 13 = .ok (.aload_n 0, 1) := by decide +kernel
theorem dX4_init_14 : decode cX4_init 14 = .ok (.sipush 1078, 3) := by decide +kernel
theorem dX4_init_17 : decode cX4_init 17 = .ok (.newarray .int, 2) := by decide +kernel
theorem dX4_init_19 : decode cX4_init 19 = .ok (.putfield 13, 3) := by decide +kernel
theorem dX4_init_22 : decode cX4_init 22 = .ok (.aload_n 0, 1) := by decide +kernel
theorem dX4_init_23 : decode cX4_init 23 = .ok (.iconst 2, 1) := by decide +kernel
theorem dX4_init_24 : decode cX4_init 24 = .ok (.newarray .boolean, 2) := by decide +kernel
theorem dX4_init_26 : decode cX4_init 26 = .ok (.putfield 16, 3) := by decide +kernel
theorem dX4_init_29 : decode cX4_init 29 = .ok (.aload_n 0, 1) := by decide +kernel
theorem dX4_init_30 : decode cX4_init 30 = .ok (.getfield 7, 3) := by decide +kernel
theorem dX4_init_33 : decode cX4_init 33 = .ok (.iconst 0, 1) := by decide +kernel
theorem dX4_init_34 : decode cX4_init 34 = .ok (.iconst 5, 1) := by decide +kernel
theorem dX4_init_35 : decode cX4_init 35 = .ok (.iastore, 1) := by decide +kernel
theorem dX4_init_36 : decode cX4_init 36 = .ok (.aload_n 0, 1) := by decide +kernel
theorem dX4_init_37 : decode cX4_init 37 = .ok (.getfield 7, 3) := by decide +kernel
theorem dX4_init_40 : decode cX4_init 40 = .ok (.iconst 1, 1) := by decide +kernel
theorem dX4_init_41 : decode cX4_init 41 = .ok (.iconst 4, 1) := by decide +kernel
theorem dX4_init_42 : decode cX4_init 42 = .ok (.iastore, 1) := by decide +kernel
theorem dX4_init_43 : decode cX4_init 43 = .ok (.aload_n 0, 1) := by decide +kernel
theorem dX4_init_44 : decode cX4_init 44 = .ok (.getfield 7, 3) := by decide +kernel
theorem dX4_init_47 : decode cX4_init 47 = .ok (.iconst 2, 1) := by decide +kernel
theorem dX4_init_48 : decode cX4_init 48 = .ok (.bipush 8, 2) := by decide +kernel
theorem dX4_init_50 : decode cX4_init 50 = .ok (.iastore, 1) := by decide +kernel
theorem dX4_init_51 : decode cX4_init 51 = .ok (.aload_n 0, 1) := by decide +kernel
theorem dX4_init_52 : decode cX4_init 52 = .ok (.getfield 7, 3) := by decide +kernel
theorem dX4_init_55 : decode cX4_init 55 = .ok (.iconst 3, 1) := by decide +kernel
theorem dX4_init_56 : decode cX4_init 56 = .ok (.iconst 3, 1) := by decide +kernel
theorem dX4_init_57 : decode cX4_init 57 = .ok (.iastore, 1) := by decide +kernel
theorem dX4_init_58 : decode cX4_init 58 = .ok (.aload_n 0, 1) := by decide +kernel
theorem dX4_init_59 : decode cX4_init 59 = .ok (.getfield 7, 3) := by decide +kernel
theorem dX4_init_62 : decode cX4_init 62 = .ok (.iconst 4, 1) := by decide +kernel
theorem dX4_init_63 : decode cX4_init 63 = .ok (.iconst 1, 1) := by decide +kernel
theorem dX4_init_64 : decode cX4_init 64 = .ok (.iastore, 1) := by decide +kernel
theorem dX4_init_65 : decode cX4_init 65 = .ok (.aload_n 0, 1) := by decide +kernel
theorem dX4_init_66 : decode cX4_init 66 = .ok (.getfield 7, 3) := by decide +kernel
theorem dX4_init_69 : decode cX4_init 69 = .ok (.iconst 5, 1) := by decide +kernel
theorem dX4_init_70 : decode cX4_init 70 = .ok (.iconst 1, 1) := by decide +kernel
theorem dX4_init_71 : decode cX4_init 71 = .ok (.iastore, 1) := by decide +kernel
theorem dX4_init_72 : decode cX4_init 72 = .ok (.return_, 1) := by decide +kernel
theorem dX4_in_0 : decode cX4_in 0 = .ok (.iload_n 0, 1) := by decide +kernel
theorem dX4_in_1 : decode cX4_in 1 = .ok (.iload_n 1, 1) := by decide +kernel
theorem dX4_in_2 : decode cX4_in 2 = .ok (.if_icmp .lt 12, 3) := by decide +kernel
theorem dX4_in_5 : decode cX4_in 5 = .ok (.iload_n 0, 1) := by decide +kernel
theorem dX4_in_6 : decode cX4_in 6 = .ok (.iload_n 2, 1) := by decide +kernel
theorem dX4_in_7 : decode cX4_in 7 = .ok (.if_icmp .gt 7, 3) := by decide +kernel
theorem dX4_in_10 : decode cX4_in 10 = .ok (.iconst 1, 1) := by decide +kernel
theorem dX4_in_11 : decode cX4_in 11 = .ok (.goto 4, 3) := by decide +kernel
theorem dX4_in_14 : decode cX4_in 14 = .ok (.iconst 0, 1) := by decide +kernel
theorem dX4_in_15 : decode cX4_in 15 = .ok (.ireturn, 1) := by decide +kernel
theorem dX4_at_0 : decode cX4_at 0 = .ok (.bipush 11, 2) := by decide +kernel
theorem dX4_at_2 : decode cX4_at 2 = .ok (.bipush 11, 2) := by decide +kernel
theorem dX4_at_4 : decode cX4_at 4 = .ok (.iload_n 0, 1) := by decide +kernel
theorem dX4_at_5 : decode cX4_at 5 = .ok (.imul, 1) := by decide +kernel
theorem dX4_at_6 : decode cX4_at 6 = .ok (.iadd, 1) := by decide +kernel
theorem dX4_at_7 : decode cX4_at 7 = .ok (.iload_n 1, 1) := by decide +kernel
theorem dX4_at_8 : decode cX4_at 8 = .ok (.iadd, 1) := by decide +kernel
theorem dX4_at_9 : decode cX4_at 9 = .ok (.ireturn, 1) := by decide +kernel
set_option maxRecDepth 20000 in
theorem ggX4_of_X4_at : GoodIn wsX4_of wsX4_at := goodIn_r _ [5] (by decide +kernel) (by decide +kernel)
set_option maxRecDepth 20000 in
theorem gX4_of_X4_at : GoodIn wsX4_of (va_wsS RX4 20 yX4_at wsX4_at) := goodIn_app (goodIn_of _ (by decide +kernel)) ggX4_of_X4_at
theorem dX4_of_0 : decode cX4_of 0 = .ok (.aload_n 0, 1) := by decide +kernel
theorem dX4_of_1 : decode cX4_of 1 = .ok (.getfield 7, 3) := by decide +kernel
theorem dX4_of_4 : decode cX4_of 4 = .ok (.iload_n 1, 1) := by decide +kernel
theorem dX4_of_5 : decode cX4_of 5 = .ok (.iload_n 2, 1) := by decide +kernel
theorem dX4_of_6 : decode cX4_of 6 = .ok (.invokestatic 20, 3) := by decide +kernel
theorem dX4_of_9 : decode cX4_of 9 = .ok (.iaload, 1) := by decide +kernel
theorem dX4_of_10 : decode cX4_of 10 = .ok (.ireturn, 1) := by decide +kernel
set_option maxRecDepth 20000 in
theorem ggX4_isBurst_X4_in : GoodIn wsX4_isBurst wsX4_in := goodIn_r _ [5] (by decide +kernel) (by decide +kernel)
set_option maxRecDepth 20000 in
theorem gX4_isBurst_X4_in : GoodIn wsX4_isBurst (va_wsS RX4 24 yX4_in wsX4_in) := goodIn_app (goodIn_of _ (by decide +kernel)) ggX4_isBurst_X4_in
theorem dX4_isBurst_0 : decode cX4_isBurst 0 = .ok (.iload_n 1, 1) := by decide +kernel
theorem dX4_isBurst_1 : decode cX4_isBurst 1 = .ok (.iconst 0, 1) := by decide +kernel
theorem dX4_isBurst_2 : decode cX4_isBurst 2 = .ok (.aload_n 0, 1) := by decide +kernel
theorem dX4_isBurst_3 : decode cX4_isBurst 3 = .ok (.getfield 7, 3) := by decide +kernel
theorem dX4_isBurst_6 : decode cX4_isBurst 6 = .ok (.bipush 10, 2) := by decide +kernel
theorem dX4_isBurst_8 : decode cX4_isBurst 8 = .ok (.iaload, 1) := by decide +kernel
theorem dX4_isBurst_9 : decode cX4_isBurst 9 = .ok (.iconst 1, 1) := by decide +kernel
theorem dX4_isBurst_10 : decode cX4_isBurst 10 = .ok (.isub, 1) := by decide +kernel
theorem dX4_isBurst_11 : decode cX4_isBurst 11 = .ok (.invokestatic 24, 3) := by decide +kernel
theorem dX4_isBurst_14 : decode cX4_isBurst 14 = .ok (.ireturn, 1) := by decide +kernel
set_option maxRecDepth 20000 in
theorem ggX4_isOut_X4_in : GoodIn wsX4_isOut wsX4_in := goodIn_r _ [4] (by decide +kernel) (by decide +kernel)
set_option maxRecDepth 20000 in
theorem gX4_isOut_X4_in : GoodIn wsX4_isOut (va_wsS RX4 24 yX4_in wsX4_in) := goodIn_app (goodIn_of _ (by decide +kernel)) ggX4_isOut_X4_in
theorem dX4_isOut_0 : decode cX4_isOut 0 = .ok (.iload_n 0, 1) := by decide +kernel
theorem dX4_isOut_1 : decode cX4_isOut 1 = .ok (.iconst 0, 1) := by decide +kernel
theorem dX4_isOut_2 : decode cX4_isOut 2 = .ok (.iconst 1, 1) := by decide +kernel
theorem dX4_isOut_3 : decode cX4_isOut 3 = .ok (.invokestatic 24, 3) := by decide +kernel
theorem dX4_isOut_6 : decode cX4_isOut 6 = .ok (.ireturn, 1) := by decide +kernel
set_option maxRecDepth 20000 in
theorem ggX4_isColour_X4_in : GoodIn wsX4_isColour wsX4_in := goodIn_r _ [4] (by decide +kernel) (by decide +kernel)
set_option maxRecDepth 20000 in
theorem gX4_isColour_X4_in : GoodIn wsX4_isColour (va_wsS RX4 24 yX4_in wsX4_in) := goodIn_app (goodIn_of _ (by decide +kernel)) ggX4_isColour_X4_in
theorem dX4_isColour_0 : decode cX4_isColour 0 = .ok (.iload_n 0, 1) := by decide +kernel
theorem dX4_isColour_1 : decode cX4_isColour 1 = .ok (.iconst 0, 1) := by decide +kernel
theorem dX4_isColour_2 : decode cX4_isColour 2 = .ok (.iconst 5, 1) := by decide +kernel
theorem dX4_isColour_3 : decode cX4_isColour 3 = .ok (.invokestatic 24, 3) := by decide +kernel
theorem dX4_isColour_6 : decode cX4_isColour 6 = .ok (.ireturn, 1) := by decide +kernel
set_option maxRecDepth 20000 in
theorem ggX4_rule_X4_in : GoodIn wsX4_rule wsX4_in := goodIn_r _ [5] (by decide +kernel) (by decide +kernel)
set_option maxRecDepth 20000 in
theorem gX4_rule_X4_in : GoodIn wsX4_rule (va_wsS RX4 24 yX4_in wsX4_in) := goodIn_app (goodIn_of _ (by decide +kernel)) ggX4_rule_X4_in
theorem dX4_rule_0 : decode cX4_rule 0 = .ok (.iload_n 1, 1) := by decide +kernel
theorem dX4_rule_1 : decode cX4_rule 1 = .ok (.iconst 0, 1) := by decide +kernel
theorem dX4_rule_2 : decode cX4_rule 2 = .ok (.iconst 5, 1) := by decide +kernel
theorem dX4_rule_3 : decode cX4_rule 3 = .ok (.invokestatic 24, 3) := by decide +kernel
theorem dX4_rule_6 : decode cX4_rule 6 = .ok (.ifCond .eq 59, 3) := by decide +kernel
theorem dX4_rule_9 : decode cX4_rule 9 = .ok (.iload_n 2, 1) := by decide +kernel
theorem dX4_rule_10 : decode cX4_rule 10 = .ok (.iload_n 1, 1) := by decide +kernel
theorem dX4_rule_11 : decode cX4_rule 11 = .ok (.iconst 1, 1) := by decide +kernel
theorem dX4_rule_12 : decode cX4_rule 12 = .ok (.if_icmp .eq 8, 3) := by decide +kernel
theorem dX4_rule_15 : decode cX4_rule 15 = .ok (.iload_n 1, 1) := by decide +kernel
theorem dX4_rule_16 : decode cX4_rule 16 = .ok (.iconst 3, 1) := by decide +kernel
theorem dX4_rule_17 : decode cX4_rule 17 = .ok (.if_icmp .ne 7, 3) := by decide +kernel
theorem dX4_rule_20 : decode cX4_rule 20 = .ok (.iconst 1, 1) := by decide +kernel
theorem dX4_rule_21 : decode cX4_rule 21 = .ok (.goto 4, 3) := by decide +kernel
theorem dX4_rule_24 : decode cX4_rule 24 = .ok (.iconst 0, 1) := by decide +kernel
theorem dX4_rule_25 : decode cX4_rule 25 = .ok (.iload_n 1, 1) := by decide +kernel
theorem dX4_rule_26 : decode cX4_rule 26 = .ok (.ifCond .ne 7, 3) := by decide +kernel
theorem dX4_rule_29 : decode cX4_rule 29 = .ok (.iconst 5, 1) := by decide +kernel
theorem dX4_rule_30 : decode cX4_rule 30 = .ok (.goto 29, 3) := by decide +kernel
theorem dX4_rule_33 : decode cX4_rule 33 = .ok (.iload_n 1, 1) := by decide +kernel
theorem dX4_rule_34 : decode cX4_rule 34 = .ok (.iconst 1, 1) := by decide +kernel
theorem dX4_rule_35 : decode cX4_rule 35 = .ok (.if_icmp .eq 8, 3) := by decide +kernel
theorem dX4_rule_38 : decode cX4_rule 38 = .ok (.iload_n 1, 1) := by decide +kernel
theorem dX4_rule_39 : decode cX4_rule 39 = .ok (.iconst 2, 1) := by decide +kernel
theorem dX4_rule_40 : decode cX4_rule 40 = .ok (.if_icmp .ne 8, 3) := by decide +kernel
theorem dX4_rule_43 : decode cX4_rule 43 = .ok (.bipush 20, 2) := by decide +kernel
theorem dX4_rule_45 : decode cX4_rule 45 = .ok (.goto 14, 3) := by decide +kernel
theorem dX4_rule_48 : decode cX4_rule 48 = .ok (.iload_n 1, 1) := by decide +kernel
theorem dX4_rule_49 : decode cX4_rule 49 = .ok (.iconst 3, 1) := by decide +kernel
theorem dX4_rule_50 : decode cX4_rule 50 = .ok (.if_icmp .ne 8, 3) := by decide +kernel
theorem dX4_rule_53 : decode cX4_rule 53 = .ok (.bipush 60, 2) := by decide +kernel
theorem dX4_rule_55 : decode cX4_rule 55 = .ok (.goto 4, 3) := by decide +kernel
theorem dX4_rule_58 : decode cX4_rule 58 = .ok (.iconst 1, 1) := by decide +kernel
theorem dX4_rule_59 : decode cX4_rule 59 = .ok (.invokestatic 24, 3) := by decide +kernel
theorem dX4_rule_62 : decode cX4_rule 62 = .ok (.ifCond .ne 6, 3) := by decide +kernel
theorem dX4_rule_65 : decode cX4_rule 65 = .ok (.bipush (-2), 2) := by decide +kernel
theorem dX4_rule_67 : decode cX4_rule 67 = .ok (.ireturn, 1) := by decide +kernel
theorem dX4_rule_68 : decode cX4_rule 68 = .ok (.aload_n 0, 1) := by decide +kernel
theorem dX4_rule_69 : decode cX4_rule 69 = .ok (.getfield 7, 3) := by decide +kernel
theorem dX4_rule_72 : decode cX4_rule 72 = .ok (.iload_n 1, 1) := by decide +kernel
theorem dX4_rule_73 : decode cX4_rule 73 = .ok (.iaload, 1) := by decide +kernel
theorem dX4_rule_74 : decode cX4_rule 74 = .ok (.istore_n 3, 1) := by decide +kernel
theorem dX4_rule_75 : decode cX4_rule 75 = .ok (.aload_n 0, 1) := by decide +kernel
theorem dX4_rule_76 : decode cX4_rule 76 = .ok (.getfield 7, 3) := by decide +kernel
theorem dX4_rule_79 : decode cX4_rule 79 = .ok (.iload_n 1, 1) := by decide +kernel
theorem dX4_rule_80 : decode cX4_rule 80 = .ok (.iload_n 2, 1) := by decide +kernel
theorem dX4_rule_81 : decode cX4_rule 81 = .ok (.iastore, 1) := by decide +kernel
theorem dX4_rule_82 : decode cX4_rule 82 = .ok (.iload_n 3, 1) := by decide +kernel
theorem dX4_rule_83 : decode cX4_rule 83 = .ok (.ireturn, 1) := by decide +kernel
set_option maxRecDepth 20000 in
theorem ggX4_isOnLine_X4_of : GoodIn wsX4_isOnLine wsX4_of := goodIn_r _ [5, 6, 7, 8, 4, 9, 10, 11, 12, 13, 14, 15, 16, 17] (by decide +kernel) (by decide +kernel)
set_option maxRecDepth 20000 in
theorem gX4_isOnLine_X4_of : GoodIn wsX4_isOnLine (wsV RX4 28 RX4 yX4_of wsX4_of) := goodIn_app (goodIn_of _ (by decide +kernel)) ggX4_isOnLine_X4_of
theorem dX4_isOnLine_0 : decode cX4_isOnLine 0 = .ok (.aload_n 0, 1) := by decide +kernel
theorem dX4_isOnLine_1 : decode cX4_isOnLine 1 = .ok (.iload_n 1, 1) := by decide +kernel
theorem dX4_isOnLine_2 : decode cX4_isOnLine 2 = .ok (.bipush 6, 2) := by decide +kernel
theorem dX4_isOnLine_4 : decode cX4_isOnLine 4 = .ok (.invokevirtual 28, 3) := by decide +kernel
theorem dX4_isOnLine_7 : decode cX4_isOnLine 7 = .ok (.iconst 1, 1) := by decide +kernel
theorem dX4_isOnLine_8 : decode cX4_isOnLine 8 = .ok (.if_icmp .ne 18, 3) := by decide +kernel
theorem dX4_isOnLine_11 : decode cX4_isOnLine 11 = .ok (.aload_n 0, 1) := by decide +kernel
theorem dX4_isOnLine_12 : decode cX4_isOnLine 12 = .ok (.iload_n 1, 1) := by decide +kernel
theorem dX4_isOnLine_13 : decode cX4_isOnLine 13 = .ok (.bipush 10, 2) := by decide +kernel
theorem dX4_isOnLine_15 : decode cX4_isOnLine 15 = .ok (.invokevirtual 28, 3) := by decide +kernel
theorem dX4_isOnLine_18 : decode cX4_isOnLine 18 = .ok (.iload_n 2, 1) := by decide +kernel
theorem dX4_isOnLine_19 : decode cX4_isOnLine 19 = .ok (.if_icmp .ne 7, 3) := by decide +kernel
theorem dX4_isOnLine_22 : decode cX4_isOnLine 22 = .ok (.iconst 1, 1) := by decide +kernel
theorem dX4_isOnLine_23 : decode cX4_isOnLine 23 = .ok (.goto 4, 3) := by decide +kernel
theorem dX4_isOnLine_26 : decode cX4_isOnLine 26 = .ok (.iconst 0, 1) := by decide +kernel
theorem dX4_isOnLine_27 : decode cX4_isOnLine 27 = .ok (.ireturn, 1) := by decide +kernel
set_option maxRecDepth 20000 in
theorem ggX4_line_X4_in : GoodIn wsX4_line wsX4_in := goodIn_r _ [5] (by decide +kernel) (by decide +kernel)
set_option maxRecDepth 20000 in
theorem gX4_line_X4_in : GoodIn wsX4_line (va_wsS RX4 24 yX4_in wsX4_in) := goodIn_app (goodIn_of _ (by decide +kernel)) ggX4_line_X4_in
set_option maxRecDepth 20000 in
theorem ggX4_line_X4_isOnLine : GoodIn wsX4_line wsX4_isOnLine := goodIn_r _ [9, 10, 11, 12, 4, 13, 1, 14, 15, 16, 17, 18, 19, 20, 21, 22, 23, 24] (by decide +kernel) (by decide +kernel)
set_option maxRecDepth 20000 in
theorem gX4_line_X4_isOnLine : GoodIn wsX4_line (wsV RX4 31 RX4 yX4_isOnLine wsX4_isOnLine) := goodIn_app (goodIn_of _ (by decide +kernel)) ggX4_line_X4_isOnLine
set_option maxRecDepth 20000 in
theorem ggX4_line_X4_of : GoodIn wsX4_line wsX4_of := goodIn_r _ [13, 1, 14, 15, 4, 16, 17, 18, 19, 20, 21, 22, 23, 24] (by decide +kernel) (by decide +kernel)
set_option maxRecDepth 20000 in
theorem gX4_line_X4_of : GoodIn wsX4_line (wsV RX4 28 RX4 yX4_of wsX4_of) := goodIn_app (goodIn_of _ (by decide +kernel)) ggX4_line_X4_of
theorem dX4_line_0 : decode cX4_line 0 = .ok (.iload_n 1, 1) := by decide +kernel
theorem dX4_line_1 : decode cX4_line 1 = .ok (.iconst 0, 1) := by decide +kernel
theorem dX4_line_2 : decode cX4_line 2 = .ok (.iconst 2, 1) := by decide +kernel
theorem dX4_line_3 : decode cX4_line 3 = .ok (.invokestatic 24, 3) := by decide +kernel
theorem dX4_line_6 : decode cX4_line 6 = .ok (.ifCond .ne 5, 3) := by decide +kernel
theorem dX4_line_9 : decode cX4_line 9 = .ok (.iconst (-1), 1) := by decide +kernel
theorem dX4_line_10 : decode cX4_line 10 = .ok (.ireturn, 1) := by decide +kernel
theorem dX4_line_11 : decode cX4_line 11 = .ok (.iload_n 2, 1) := by decide +kernel
theorem dX4_line_12 : decode cX4_line 12 = .ok (.iconst 0, 1) := by decide +kernel
theorem dX4_line_13 : decode cX4_line 13 = .ok (.bipush 60, 2) := by decide +kernel
theorem dX4_line_15 : decode cX4_line 15 = .ok (.invokestatic 24, 3) := by decide +kernel
theorem dX4_line_18 : decode cX4_line 18 = .ok (.ifCond .ne 6, 3) := by decide +kernel
theorem dX4_line_21 : decode cX4_line 21 = .ok (.bipush (-2), 2) := by decide +kernel
theorem dX4_line_23 : decode cX4_line 23 = .ok (.ireturn, 1) := by decide +kernel
theorem dX4_line_24 : decode cX4_line 24 = .ok (.iconst 0, 1) := by decide +kernel
theorem dX4_line_25 : decode cX4_line 25 = .ok (.istore_n 3, 1) := by decide +kernel
theorem dX4_line_26 : decode cX4_line 26 = .ok (.iload_n 3, 1) := by decide +kernel
theorem dX4_line_27 : decode cX4_line 27 = .ok (.aload_n 0, 1) := by decide +kernel
theorem dX4_line_28 : decode cX4_line 28 = .ok (.getfield 7, 3) := by decide +kernel
theorem dX4_line_31 : decode cX4_line 31 = .ok (.bipush 10, 2) := by decide +kernel
theorem dX4_line_33 : decode cX4_line 33 = .ok (.iaload, 1) := by decide +kernel
theorem dX4_line_34 : decode cX4_line 34 = .ok (.if_icmp .ge 44, 3) := by decide +kernel
theorem dX4_line_37 : decode cX4_line 37 = .ok (.aload_n 0, 1) := by decide +kernel
theorem dX4_line_38 : decode cX4_line 38 = .ok (.iload_n 3, 1) := by decide +kernel
theorem dX4_line_39 : decode cX4_line 39 = .ok (.iload_n 1, 1) := by decide +kernel
theorem dX4_line_40 : decode cX4_line 40 = .ok (.invokevirtual 31, 3) := by decide +kernel
theorem dX4_line_43 : decode cX4_line 43 = .ok (.ifCond .eq 29, 3) := by decide +kernel
theorem dX4_line_46 : decode cX4_line 46 = .ok (.aload_n 0, 1) := by decide +kernel
theorem dX4_line_47 : decode cX4_line 47 = .ok (.iload_n 3, 1) := by decide +kernel
theorem dX4_line_48 : decode cX4_line 48 = .ok (.iconst 5, 1) := by decide +kernel
theorem dX4_line_49 : decode cX4_line 49 = .ok (.invokevirtual 28, 3) := by decide +kernel
theorem dX4_line_52 : decode cX4_line 52 = .ok (.aload_n 0, 1) := by decide +kernel
theorem dX4_line_53 : decode cX4_line 53 = .ok (.iload_n 3, 1) := by decide +kernel
theorem dX4_line_54 : decode cX4_line 54 = .ok (.iconst 4, 1) := by decide +kernel
theorem dX4_line_55 : decode cX4_line 55 = .ok (.invokevirtual 28, 3) := by decide +kernel
theorem dX4_line_58 : decode cX4_line 58 = .ok (.iadd, 1) := by decide +kernel
theorem dX4_line_59 : decode cX4_line 59 = .ok (.aload_n 0, 1) := by decide +kernel
theorem dX4_line_60 : decode cX4_line 60 = .ok (.getfield 7, 3) := by decide +kernel
theorem dX4_line_63 : decode cX4_line 63 = .ok (.bipush 9, 2) := by decide +kernel
theorem dX4_line_65 : decode cX4_line 65 = .ok (.iaload, 1) := by decide +kernel
theorem dX4_line_66 : decode cX4_line 66 = .ok (.if_icmp .le 6, 3) := by decide +kernel
theorem dX4_line_69 : decode cX4_line 69 = .ok (.bipush (-5), 2) := by decide +kernel
theorem dX4_line_71 : decode cX4_line 71 = .ok (.ireturn, 1) := by decide +kernel
theorem dX4_line_72 : decode cX4_line 72 = .ok (.iinc 3 1, 3) := by decide +kernel
theorem dX4_line_75 : decode cX4_line 75 = .ok (.goto (-49), 3) := by decide +kernel
theorem dX4_line_78 : decode cX4_line 78 = .ok (.aload_n 0, 1) := by decide +kernel
theorem dX4_line_79 : decode cX4_line 79 = .ok (.getfield 7, 3) := by decide +kernel
theorem dX4_line_82 : decode cX4_line 82 = .ok (.bipush 6, 2) := by decide +kernel
theorem dX4_line_84 : decode cX4_line 84 = .ok (.iload_n 1, 1) := by decide +kernel
theorem dX4_line_85 : decode cX4_line 85 = .ok (.iadd, 1) := by decide +kernel
theorem dX4_line_86 : decode cX4_line 86 = .ok (.iaload, 1) := by decide +kernel
theorem dX4_line_87 : decode cX4_line 87 = .ok (.istore_n 3, 1) := by decide +kernel
theorem dX4_line_88 : decode cX4_line 88 = .ok (.aload_n 0, 1) := by decide +kernel
theorem dX4_line_89 : decode cX4_line 89 = .ok (.getfield 7, 3) := by decide +kernel
theorem dX4_line_92 : decode cX4_line 92 = .ok (.bipush 6, 2) := by decide +kernel
theorem dX4_line_94 : decode cX4_line 94 = .ok (.iload_n 1, 1) := by decide +kernel
theorem dX4_line_95 : decode cX4_line 95 = .ok (.iadd, 1) := by decide +kernel
theorem dX4_line_96 : decode cX4_line 96 = .ok (.iload_n 2, 1) := by decide +kernel
theorem dX4_line_97 : decode cX4_line 97 = .ok (.iastore, 1) := by decide +kernel
theorem dX4_line_98 : decode cX4_line 98 = .ok (.iload_n 3, 1) := by decide +kernel
theorem dX4_line_99 : decode cX4_line 99 = .ok (.ireturn, 1) := by decide +kernel
set_option maxRecDepth 20000 in
theorem ggX4_pass_X4_in : GoodIn wsX4_pass wsX4_in := goodIn_r _ [5] (by decide +kernel) (by decide +kernel)
set_option maxRecDepth 20000 in
theorem gX4_pass_X4_in : GoodIn wsX4_pass (va_wsS RX4 24 yX4_in wsX4_in) := goodIn_app (goodIn_of _ (by decide +kernel)) ggX4_pass_X4_in
theorem dX4_pass_0 : decode cX4_pass 0 = .ok (.iload_n 1, 1) := by decide +kernel
theorem dX4_pass_1 : decode cX4_pass 1 = .ok (.iconst 1, 1) := by decide +kernel
theorem dX4_pass_2 : decode cX4_pass 2 = .ok (.sipush 200, 3) := by decide +kernel
theorem dX4_pass_5 : decode cX4_pass 5 = .ok (.invokestatic 24, 3) := by decide +kernel
theorem dX4_pass_8 : decode cX4_pass 8 = .ok (.ifCond .ne 6, 3) := by decide +kernel
theorem dX4_pass_11 : decode cX4_pass 11 = .ok (.bipush (-2), 2) := by decide +kernel
theorem dX4_pass_13 : decode cX4_pass 13 = .ok (.ireturn, 1) := by decide +kernel
theorem dX4_pass_14 : decode cX4_pass 14 = .ok (.aload_n 0, 1) := by decide +kernel
theorem dX4_pass_15 : decode cX4_pass 15 = .ok (.getfield 7, 3) := by decide +kernel
theorem dX4_pass_18 : decode cX4_pass 18 = .ok (.bipush 9, 2) := by decide +kernel
theorem dX4_pass_20 : decode cX4_pass 20 = .ok (.dup2, 1) := by decide +kernel
theorem dX4_pass_21 : decode cX4_pass 21 = .ok (.iaload, 1) := by decide +kernel
theorem dX4_pass_22 : decode cX4_pass 22 = .ok (.iload_n 1, 1) := by decide +kernel
theorem dX4_pass_23 : decode cX4_pass 23 = .ok (.iadd, 1) := by decide +kernel
theorem dX4_pass_24 : decode cX4_pass 24 = .ok (.iastore, 1) := by decide +kernel
theorem dX4_pass_25 : decode cX4_pass 25 = .ok (.aload_n 0, 1) := by decide +kernel
theorem dX4_pass_26 : decode cX4_pass 26 = .ok (.getfield 7, 3) := by decide +kernel
theorem dX4_pass_29 : decode cX4_pass 29 = .ok (.bipush 9, 2) := by decide +kernel
theorem dX4_pass_31 : decode cX4_pass 31 = .ok (.iaload, 1) := by decide +kernel
theorem dX4_pass_32 : decode cX4_pass 32 = .ok (.ireturn, 1) := by decide +kernel
set_option maxRecDepth 20000 in
theorem ggX4_isOn_X4_of : GoodIn wsX4_isOn wsX4_of := goodIn_r _ [5, 6, 7, 8, 4, 9, 10, 11, 12, 13, 14, 15, 16, 17] (by decide +kernel) (by decide +kernel)
set_option maxRecDepth 20000 in
theorem gX4_isOn_X4_of : GoodIn wsX4_isOn (wsV RX4 28 RX4 yX4_of wsX4_of) := goodIn_app (goodIn_of _ (by decide +kernel)) ggX4_isOn_X4_of
theorem dX4_isOn_0 : decode cX4_isOn 0 = .ok (.aload_n 0, 1) := by decide +kernel
theorem dX4_isOn_1 : decode cX4_isOn 1 = .ok (.iload_n 1, 1) := by decide +kernel
theorem dX4_isOn_2 : decode cX4_isOn 2 = .ok (.iconst 0, 1) := by decide +kernel
theorem dX4_isOn_3 : decode cX4_isOn 3 = .ok (.invokevirtual 28, 3) := by decide +kernel
theorem dX4_isOn_6 : decode cX4_isOn 6 = .ok (.iload_n 2, 1) := by decide +kernel
theorem dX4_isOn_7 : decode cX4_isOn 7 = .ok (.if_icmp .ne 28, 3) := by decide +kernel
theorem dX4_isOn_10 : decode cX4_isOn 10 = .ok (.aload_n 0, 1) := by decide +kernel
theorem dX4_isOn_11 : decode cX4_isOn 11 = .ok (.iload_n 1, 1) := by decide +kernel
theorem dX4_isOn_12 : decode cX4_isOn 12 = .ok (.bipush 9, 2) := by decide +kernel
theorem dX4_isOn_14 : decode cX4_isOn 14 = .ok (.invokevirtual 28, 3) := by decide +kernel
theorem dX4_isOn_17 : decode cX4_isOn 17 = .ok (.ifCond .le 18, 3) := by decide +kernel
theorem dX4_isOn_20 : decode cX4_isOn 20 = .ok (.aload_n 0, 1) := by decide +kernel
theorem dX4_isOn_21 : decode cX4_isOn 21 = .ok (.iload_n 1, 1) := by decide +kernel
theorem dX4_isOn_22 : decode cX4_isOn 22 = .ok (.bipush 7, 2) := by decide +kernel
theorem dX4_isOn_24 : decode cX4_isOn 24 = .ok (.invokevirtual 28, 3) := by decide +kernel
theorem dX4_isOn_27 : decode cX4_isOn 27 = .ok (.iload_n 3, 1) := by decide +kernel
theorem dX4_isOn_28 : decode cX4_isOn 28 = .ok (.if_icmp .ne 7, 3) := by decide +kernel
theorem dX4_isOn_31 : decode cX4_isOn 31 = .ok (.iconst 1, 1) := by decide +kernel
theorem dX4_isOn_32 : decode cX4_isOn 32 = .ok (.goto 4, 3) := by decide +kernel
theorem dX4_isOn_35 : decode cX4_isOn 35 = .ok (.iconst 0, 1) := by decide +kernel
theorem dX4_isOn_36 : decode cX4_isOn 36 = .ok (.ireturn, 1) := by decide +kernel
theorem dX4_clash_0 : decode cX4_clash 0 = .ok (.iload_n 0, 1) := by decide +kernel
theorem dX4_clash_1 : decode cX4_clash 1 = .ok (.iload_n 2, 1) := by decide +kernel
theorem dX4_clash_2 : decode cX4_clash 2 = .ok (.iload_n 3, 1) := by decide +kernel
theorem dX4_clash_3 : decode cX4_clash 3 = .ok (.iadd, 1) := by decide +kernel
theorem dX4_clash_4 : decode cX4_clash 4 = .ok (.if_icmp .ge 14, 3) := by decide +kernel
theorem dX4_clash_7 : decode cX4_clash 7 = .ok (.iload_n 2, 1) := by decide +kernel
theorem dX4_clash_8 : decode cX4_clash 8 = .ok (.iload_n 0, 1) := by decide +kernel
theorem dX4_clash_9 : decode cX4_clash 9 = .ok (.iload_n 1, 1) := by decide +kernel
theorem dX4_clash_10 : decode cX4_clash 10 = .ok (.iadd, 1) := by decide +kernel
theorem dX4_clash_11 : decode cX4_clash 11 = .ok (.if_icmp .ge 7, 3) := by decide +kernel
theorem dX4_clash_14 : decode cX4_clash 14 = .ok (.iconst 1, 1) := by decide +kernel
theorem dX4_clash_15 : decode cX4_clash 15 = .ok (.goto 4, 3) := by decide +kernel
theorem dX4_clash_18 : decode cX4_clash 18 = .ok (.iconst 0, 1) := by decide +kernel
theorem dX4_clash_19 : decode cX4_clash 19 = .ok (.ireturn, 1) := by decide +kernel
set_option maxRecDepth 20000 in
theorem ggX4_isClear_X4_isOn : GoodIn wsX4_isClear wsX4_isOn := goodIn_r _ [6, 7, 8, 9, 5, 10, 1, 11, 12, 13, 17, 18, 19, 20, 21, 22, 23, 24] (by decide +kernel) (by decide +kernel)
set_option maxRecDepth 20000 in
theorem gX4_isClear_X4_isOn : GoodIn wsX4_isClear (wsV RX4 35 RX4 yX4_isOn wsX4_isOn) := goodIn_app (goodIn_of _ (by decide +kernel)) ggX4_isClear_X4_isOn
set_option maxRecDepth 20000 in
theorem ggX4_isClear_X4_of : GoodIn wsX4_isClear wsX4_of := goodIn_r _ [10, 1, 11, 12, 5, 13, 17, 18, 19, 20, 21, 22, 23, 24] (by decide +kernel) (by decide +kernel)
set_option maxRecDepth 20000 in
theorem gX4_isClear_X4_of : GoodIn wsX4_isClear (wsV RX4 28 RX4 yX4_of wsX4_of) := goodIn_app (goodIn_of _ (by decide +kernel)) ggX4_isClear_X4_of
set_option maxRecDepth 20000 in
theorem ggX4_isClear_X4_clash : GoodIn wsX4_isClear wsX4_clash := goodIn_r _ [16] (by decide +kernel) (by decide +kernel)
set_option maxRecDepth 20000 in
theorem gX4_isClear_X4_clash : GoodIn wsX4_isClear (va_wsS RX4 38 yX4_clash wsX4_clash) := goodIn_app (goodIn_of _ (by decide +kernel)) ggX4_isClear_X4_clash
theorem dX4_isClear_0 : decode cX4_isClear 0 = .ok (.iconst 0, 1) := by decide +kernel
theorem dX4_isClear_1 : decode cX4_isClear 1 = .ok (.istore 5, 2) := by decide +kernel
theorem dX4_isClear_3 : decode cX4_isClear 3 = .ok (.iload 5, 2) := by decide +kernel
theorem dX4_isClear_5 : decode cX4_isClear 5 = .ok (.aload_n 0, 1) := by decide +kernel
theorem dX4_isClear_6 : decode cX4_isClear 6 = .ok (.getfield 7, 3) := by decide +kernel
theorem dX4_isClear_9 : decode cX4_isClear 9 = .ok (.bipush 10, 2) := by decide +kernel
theorem dX4_isClear_11 : decode cX4_isClear 11 = .ok (.iaload, 1) := by decide +kernel
theorem dX4_isClear_12 : decode cX4_isClear 12 = .ok (.if_icmp .ge 47, 3) := by decide +kernel
theorem dX4_isClear_15 : decode cX4_isClear 15 = .ok (.aload_n 0, 1) := by decide +kernel
theorem dX4_isClear_16 : decode cX4_isClear 16 = .ok (.iload 5, 2) := by decide +kernel
theorem dX4_isClear_18 : decode cX4_isClear 18 = .ok (.iload_n 1, 1) := by decide +kernel
theorem dX4_isClear_19 : decode cX4_isClear 19 = .ok (.iload_n 2, 1) := by decide +kernel
theorem dX4_isClear_20 : decode cX4_isClear 20 = .ok (.invokevirtual 35, 3) := by decide +kernel
theorem dX4_isClear_23 : decode cX4_isClear 23 = .ok (.ifCond .eq 30, 3) := by decide +kernel
theorem dX4_isClear_26 : decode cX4_isClear 26 = .ok (.iload_n 3, 1) := by decide +kernel
theorem dX4_isClear_27 : decode cX4_isClear 27 = .ok (.iload 4, 2) := by decide +kernel
theorem dX4_isClear_29 : decode cX4_isClear 29 = .ok (.aload_n 0, 1) := by decide +kernel
theorem dX4_isClear_30 : decode cX4_isClear 30 = .ok (.iload 5, 2) := by decide +kernel
theorem dX4_isClear_32 : decode cX4_isClear 32 = .ok (.bipush 8, 2) := by decide +kernel
theorem dX4_isClear_34 : decode cX4_isClear 34 = .ok (.invokevirtual 28, 3) := by decide +kernel
theorem dX4_isClear_37 : decode cX4_isClear 37 = .ok (.aload_n 0, 1) := by decide +kernel
theorem dX4_isClear_38 : decode cX4_isClear 38 = .ok (.iload 5, 2) := by decide +kernel
theorem dX4_isClear_40 : decode cX4_isClear 40 = .ok (.bipush 9, 2) := by decide +kernel
theorem dX4_isClear_42 : decode cX4_isClear 42 = .ok (.invokevirtual 28, 3) := by decide +kernel
theorem dX4_isClear_45 : decode cX4_isClear 45 = .ok (.invokestatic 38, 3) := by decide +kernel
theorem dX4_isClear_48 : decode cX4_isClear 48 = .ok (.ifCond .eq 5, 3) := by decide +kernel
theorem dX4_isClear_51 : decode cX4_isClear 51 = .ok (.iconst 0, 1) := by decide +kernel
theorem dX4_isClear_52 : decode cX4_isClear 52 = .ok (.ireturn, 1) := by decide +kernel
theorem dX4_isClear_53 : decode cX4_isClear 53 = .ok (.iinc 5 1, 3) := by decide +kernel
theorem dX4_isClear_56 : decode cX4_isClear 56 = .ok (.goto (-53), 3) := by decide +kernel
theorem dX4_isClear_59 : decode cX4_isClear 59 = .ok (.iconst 1, 1) := by decide +kernel
theorem dX4_isClear_60 : decode cX4_isClear 60 = .ok (.ireturn, 1) := by decide +kernel
set_option maxRecDepth 20000 in
theorem ggX4_isLast_X4_isOn : GoodIn wsX4_isLast wsX4_isOn := goodIn_r _ [6, 7, 8, 9, 5, 10, 1, 11, 12, 13, 14, 15, 16, 17, 18, 19, 20, 21] (by decide +kernel) (by decide +kernel)
set_option maxRecDepth 20000 in
theorem gX4_isLast_X4_isOn : GoodIn wsX4_isLast (wsV RX4 35 RX4 yX4_isOn wsX4_isOn) := goodIn_app (goodIn_of _ (by decide +kernel)) ggX4_isLast_X4_isOn
set_option maxRecDepth 20000 in
theorem ggX4_isLast_X4_of : GoodIn wsX4_isLast wsX4_of := goodIn_r _ [10, 1, 11, 12, 5, 13, 14, 15, 16, 17, 18, 19, 20, 21] (by decide +kernel) (by decide +kernel)
set_option maxRecDepth 20000 in
theorem gX4_isLast_X4_of : GoodIn wsX4_isLast (wsV RX4 28 RX4 yX4_of wsX4_of) := goodIn_app (goodIn_of _ (by decide +kernel)) ggX4_isLast_X4_of
theorem dX4_isLast_0 : decode cX4_isLast 0 = .ok (.iconst 0, 1) := by decide +kernel
theorem dX4_isLast_1 : decode cX4_isLast 1 = .ok (.istore 4, 2) := by decide +kernel
theorem dX4_isLast_3 : decode cX4_isLast 3 = .ok (.iload 4, 2) := by decide +kernel
theorem dX4_isLast_5 : decode cX4_isLast 5 = .ok (.aload_n 0, 1) := by decide +kernel
theorem dX4_isLast_6 : decode cX4_isLast 6 = .ok (.getfield 7, 3) := by decide +kernel
theorem dX4_isLast_9 : decode cX4_isLast 9 = .ok (.bipush 10, 2) := by decide +kernel
theorem dX4_isLast_11 : decode cX4_isLast 11 = .ok (.iaload, 1) := by decide +kernel
theorem dX4_isLast_12 : decode cX4_isLast 12 = .ok (.if_icmp .ge 43, 3) := by decide +kernel
theorem dX4_isLast_15 : decode cX4_isLast 15 = .ok (.aload_n 0, 1) := by decide +kernel
theorem dX4_isLast_16 : decode cX4_isLast 16 = .ok (.iload 4, 2) := by decide +kernel
theorem dX4_isLast_18 : decode cX4_isLast 18 = .ok (.iload_n 1, 1) := by decide +kernel
theorem dX4_isLast_19 : decode cX4_isLast 19 = .ok (.iload_n 2, 1) := by decide +kernel
theorem dX4_isLast_20 : decode cX4_isLast 20 = .ok (.invokevirtual 35, 3) := by decide +kernel
theorem dX4_isLast_23 : decode cX4_isLast 23 = .ok (.ifCond .eq 26, 3) := by decide +kernel
theorem dX4_isLast_26 : decode cX4_isLast 26 = .ok (.aload_n 0, 1) := by decide +kernel
theorem dX4_isLast_27 : decode cX4_isLast 27 = .ok (.iload 4, 2) := by decide +kernel
theorem dX4_isLast_29 : decode cX4_isLast 29 = .ok (.bipush 8, 2) := by decide +kernel
theorem dX4_isLast_31 : decode cX4_isLast 31 = .ok (.invokevirtual 28, 3) := by decide +kernel
theorem dX4_isLast_34 : decode cX4_isLast 34 = .ok (.aload_n 0, 1) := by decide +kernel
theorem dX4_isLast_35 : decode cX4_isLast 35 = .ok (.iload 4, 2) := by decide +kernel
theorem dX4_isLast_37 : decode cX4_isLast 37 = .ok (.bipush 9, 2) := by decide +kernel
theorem dX4_isLast_39 : decode cX4_isLast 39 = .ok (.invokevirtual 28, 3) := by decide +kernel
theorem dX4_isLast_42 : decode cX4_isLast 42 = .ok (.iadd, 1) := by decide +kernel
theorem dX4_isLast_43 : decode cX4_isLast 43 = .ok (.iload_n 3, 1) := by decide +kernel
theorem dX4_isLast_44 : decode cX4_isLast 44 = .ok (.if_icmp .le 5, 3) := by decide +kernel
theorem dX4_isLast_47 : decode cX4_isLast 47 = .ok (.iconst 0, 1) := by decide +kernel
theorem dX4_isLast_48 : decode cX4_isLast 48 = .ok (.ireturn, 1) := by decide +kernel
theorem dX4_isLast_49 : decode cX4_isLast 49 = .ok (.iinc 4 1, 3) := by decide +kernel
theorem dX4_isLast_52 : decode cX4_isLast 52 = .ok (.goto (-49), 3) := by decide +kernel
theorem dX4_isLast_55 : decode cX4_isLast 55 = .ok (.iconst 1, 1) := by decide +kernel
theorem dX4_isLast_56 : decode cX4_isLast 56 = .ok (.ireturn, 1) := by decide +kernel
set_option maxRecDepth 20000 in
theorem ggX4_isFree_X4_isClear : GoodIn wsX4_isFree wsX4_isClear := goodIn_r _ [6, 1, 7, 8, 9, 5, 10, 11, 12, 13, 14, 15, 16, 17, 18, 19, 20, 25, 26, 27, 28, 29, 30, 31, 32] (by decide +kernel) (by decide +kernel)
set_option maxRecDepth 20000 in
theorem gX4_isFree_X4_isClear : GoodIn wsX4_isFree (wsV RX4 42 RX4 yX4_isClear wsX4_isClear) := goodIn_app (goodIn_of _ (by decide +kernel)) ggX4_isFree_X4_isClear
set_option maxRecDepth 20000 in
theorem ggX4_isFree_X4_isLast : GoodIn wsX4_isFree wsX4_isLast := goodIn_r _ [24, 1, 7, 8, 9, 5, 10, 11, 12, 13, 14, 15, 16, 17, 25, 26, 27, 28, 29, 30, 31, 32] (by decide +kernel) (by decide +kernel)
set_option maxRecDepth 20000 in
theorem gX4_isFree_X4_isLast : GoodIn wsX4_isFree (wsV RX4 45 RX4 yX4_isLast wsX4_isLast) := goodIn_app (goodIn_of _ (by decide +kernel)) ggX4_isFree_X4_isLast
theorem dX4_isFree_0 : decode cX4_isFree 0 = .ok (.aload_n 0, 1) := by decide +kernel
theorem dX4_isFree_1 : decode cX4_isFree 1 = .ok (.iload_n 1, 1) := by decide +kernel
theorem dX4_isFree_2 : decode cX4_isFree 2 = .ok (.iload_n 2, 1) := by decide +kernel
theorem dX4_isFree_3 : decode cX4_isFree 3 = .ok (.iload_n 3, 1) := by decide +kernel
theorem dX4_isFree_4 : decode cX4_isFree 4 = .ok (.iload 4, 2) := by decide +kernel
theorem dX4_isFree_6 : decode cX4_isFree 6 = .ok (.invokevirtual 42, 3) := by decide +kernel
theorem dX4_isFree_9 : decode cX4_isFree 9 = .ok (.ifCond .eq 27, 3) := by decide +kernel
theorem dX4_isFree_12 : decode cX4_isFree 12 = .ok (.aload_n 0, 1) := by decide +kernel
theorem dX4_isFree_13 : decode cX4_isFree 13 = .ok (.getfield 7, 3) := by decide +kernel
theorem dX4_isFree_16 : decode cX4_isFree 16 = .ok (.iconst 5, 1) := by decide +kernel
theorem dX4_isFree_17 : decode cX4_isFree 17 = .ok (.iaload, 1) := by decide +kernel
theorem dX4_isFree_18 : decode cX4_isFree 18 = .ok (.iconst 1, 1) := by decide +kernel
theorem dX4_isFree_19 : decode cX4_isFree 19 = .ok (.if_icmp .eq 13, 3) := by decide +kernel
theorem dX4_isFree_22 : decode cX4_isFree 22 = .ok (.aload_n 0, 1) := by decide +kernel
theorem dX4_isFree_23 : decode cX4_isFree 23 = .ok (.iload_n 1, 1) := by decide +kernel
theorem dX4_isFree_24 : decode cX4_isFree 24 = .ok (.iload_n 2, 1) := by decide +kernel
theorem dX4_isFree_25 : decode cX4_isFree 25 = .ok (.iload_n 3, 1) := by decide +kernel
theorem dX4_isFree_26 : decode cX4_isFree 26 = .ok (.invokevirtual 45, 3) := by decide +kernel
theorem dX4_isFree_29 : decode cX4_isFree 29 = .ok (.ifCond .eq 7, 3) := by decide +kernel
theorem dX4_isFree_32 : decode cX4_isFree 32 = .ok (.iconst 1, 1) := by decide +kernel
theorem dX4_isFree_33 : decode cX4_isFree 33 = .ok (.goto 4, 3) := by decide +kernel
theorem dX4_isFree_36 : decode cX4_isFree 36 = .ok (.iconst 0, 1) := by decide +kernel
theorem dX4_isFree_37 : decode cX4_isFree 37 = .ok (.ireturn, 1) := by decide +kernel
set_option maxRecDepth 20000 in
theorem ggX4_gap_X4_of : GoodIn wsX4_gap wsX4_of := goodIn_r _ [6, 1, 7, 8, 5, 9, 14, 15, 16, 17, 18, 19, 20, 21] (by decide +kernel) (by decide +kernel)
set_option maxRecDepth 20000 in
theorem gX4_gap_X4_of : GoodIn wsX4_gap (wsV RX4 28 RX4 yX4_of wsX4_of) := goodIn_app (goodIn_of _ (by decide +kernel)) ggX4_gap_X4_of
set_option maxRecDepth 20000 in
theorem ggX4_gap_X4_isOn : GoodIn wsX4_gap wsX4_isOn := goodIn_r _ [13, 2, 3, 4, 5, 6, 1, 7, 8, 9, 14, 15, 16, 17, 18, 19, 20, 21] (by decide +kernel) (by decide +kernel)
set_option maxRecDepth 20000 in
theorem gX4_gap_X4_isOn : GoodIn wsX4_gap (wsV RX4 35 RX4 yX4_isOn wsX4_isOn) := goodIn_app (goodIn_of _ (by decide +kernel)) ggX4_gap_X4_isOn
theorem dX4_gap_0 : decode cX4_gap 0 = .ok (.aload_n 0, 1) := by decide +kernel
theorem dX4_gap_1 : decode cX4_gap 1 = .ok (.getfield 7, 3) := by decide +kernel
theorem dX4_gap_4 : decode cX4_gap 4 = .ok (.bipush 9, 2) := by decide +kernel
theorem dX4_gap_6 : decode cX4_gap 6 = .ok (.iaload, 1) := by decide +kernel
theorem dX4_gap_7 : decode cX4_gap 7 = .ok (.istore 4, 2) := by decide +kernel
theorem dX4_gap_9 : decode cX4_gap 9 = .ok (.iconst 0, 1) := by decide +kernel
theorem dX4_gap_10 : decode cX4_gap 10 = .ok (.istore 5, 2) := by decide +kernel
theorem dX4_gap_12 : decode cX4_gap 12 = .ok (.iload 5, 2) := by decide +kernel
theorem dX4_gap_14 : decode cX4_gap 14 = .ok (.aload_n 0, 1) := by decide +kernel
theorem dX4_gap_15 : decode cX4_gap 15 = .ok (.getfield 7, 3) := by decide +kernel
theorem dX4_gap_18 : decode cX4_gap 18 = .ok (.bipush 10, 2) := by decide +kernel
theorem dX4_gap_20 : decode cX4_gap 20 = .ok (.iaload, 1) := by decide +kernel
theorem dX4_gap_21 : decode cX4_gap 21 = .ok (.if_icmp .ge 61, 3) := by decide +kernel
theorem dX4_gap_24 : decode cX4_gap 24 = .ok (.aload_n 0, 1) := by decide +kernel
theorem dX4_gap_25 : decode cX4_gap 25 = .ok (.iload 5, 2) := by decide +kernel
theorem dX4_gap_27 : decode cX4_gap 27 = .ok (.bipush 8, 2) := by decide +kernel
theorem dX4_gap_29 : decode cX4_gap 29 = .ok (.invokevirtual 28, 3) := by decide +kernel
theorem dX4_gap_32 : decode cX4_gap 32 = .ok (.aload_n 0, 1) := by decide +kernel
theorem dX4_gap_33 : decode cX4_gap 33 = .ok (.iload 5, 2) := by decide +kernel
theorem dX4_gap_35 : decode cX4_gap 35 = .ok (.bipush 9, 2) := by decide +kernel
theorem dX4_gap_37 : decode cX4_gap 37 = .ok (.invokevirtual 28, 3) := by decide +kernel
theorem dX4_gap_40 : decode cX4_gap 40 = .ok (.iadd, 1) := by decide +kernel
theorem dX4_gap_41 : decode cX4_gap 41 = .ok (.istore 6, 2) := by decide +kernel
theorem dX4_gap_43 : decode cX4_gap 43 = .ok (.aload_n 0, 1) := by decide +kernel
theorem dX4_gap_44 : decode cX4_gap 44 = .ok (.iload 5, 2) := by decide +kernel
theorem dX4_gap_46 : decode cX4_gap 46 = .ok (.iload_n 1, 1) := by decide +kernel
theorem dX4_gap_47 : decode cX4_gap 47 = .ok (.iload_n 2, 1) := by decide +kernel
theorem dX4_gap_48 : decode cX4_gap 48 = .ok (.invokevirtual 35, 3) := by decide +kernel
theorem dX4_gap_51 : decode cX4_gap 51 = .ok (.ifCond .eq 21, 3) := by decide +kernel
theorem dX4_gap_54 : decode cX4_gap 54 = .ok (.iload 6, 2) := by decide +kernel
theorem dX4_gap_56 : decode cX4_gap 56 = .ok (.iload_n 3, 1) := by decide +kernel
theorem dX4_gap_57 : decode cX4_gap 57 = .ok (.if_icmp .gt 15, 3) := by decide +kernel
theorem dX4_gap_60 : decode cX4_gap 60 = .ok (.iload 6, 2) := by decide +kernel
theorem dX4_gap_62 : decode cX4_gap 62 = .ok (.iload 4, 2) := by decide +kernel
theorem dX4_gap_64 : decode cX4_gap 64 = .ok (.if_icmp .le 8, 3) := by decide +kernel
theorem dX4_gap_67 : decode cX4_gap 67 = .ok (.iload 6, 2) := by decide +kernel
theorem dX4_gap_69 : decode cX4_gap 69 = .ok (.goto 5, 3) := by decide +kernel
theorem dX4_gap_72 : decode cX4_gap 72 = .ok (.iload 4, 2) := by decide +kernel
theorem dX4_gap_74 : decode cX4_gap 74 = .ok (.istore 4, 2) := by decide +kernel
theorem dX4_gap_76 : decode cX4_gap 76 = .ok (.iinc 5 1, 3) := by decide +kernel
theorem dX4_gap_79 : decode cX4_gap 79 = .ok (.goto (-67), 3) := by decide +kernel
theorem dX4_gap_82 : decode cX4_gap 82 = .ok (.iload_n 3, 1) := by decide +kernel
theorem dX4_gap_83 : decode cX4_gap 83 = .ok (.iload 4, 2) := by decide +kernel
theorem dX4_gap_85 : decode cX4_gap 85 = .ok (.isub, 1) := by decide +kernel
theorem dX4_gap_86 : decode cX4_gap 86 = .ok (.ireturn, 1) := by decide +kernel
theorem dX4_away_0 : decode cX4_away 0 = .ok (.iload_n 0, 1) := by decide +kernel
theorem dX4_away_1 : decode cX4_away 1 = .ok (.iload_n 1, 1) := by decide +kernel
theorem dX4_away_2 : decode cX4_away 2 = .ok (.if_icmp .ge 9, 3) := by decide +kernel
theorem dX4_away_5 : decode cX4_away 5 = .ok (.iload_n 1, 1) := by decide +kernel
theorem dX4_away_6 : decode cX4_away 6 = .ok (.iload_n 0, 1) := by decide +kernel
theorem dX4_away_7 : decode cX4_away 7 = .ok (.isub, 1) := by decide +kernel
theorem dX4_away_8 : decode cX4_away 8 = .ok (.goto 6, 3) := by decide +kernel
theorem dX4_away_11 : decode cX4_away 11 = .ok (.iload_n 0, 1) := by decide +kernel
theorem dX4_away_12 : decode cX4_away 12 = .ok (.iload_n 1, 1) := by decide +kernel
theorem dX4_away_13 : decode cX4_away 13 = .ok (.isub, 1) := by decide +kernel
theorem dX4_away_14 : decode cX4_away 14 = .ok (.ireturn, 1) := by decide +kernel
set_option maxRecDepth 20000 in
theorem ggX4_colourFor_X4_away : GoodIn wsX4_colourFor wsX4_away := goodIn_r _ [5] (by decide +kernel) (by decide +kernel)
set_option maxRecDepth 20000 in
theorem gX4_colourFor_X4_away : GoodIn wsX4_colourFor (va_wsS RX4 48 yX4_away wsX4_away) := goodIn_app (goodIn_of _ (by decide +kernel)) ggX4_colourFor_X4_away
set_option maxRecDepth 20000 in
theorem ggX4_colourFor_X4_isFree : GoodIn wsX4_colourFor wsX4_isFree := goodIn_r _ [9, 1, 10, 11, 12, 4, 13, 14, 15, 16, 17, 18, 19, 20, 21, 22, 23, 24, 25, 26, 27, 28, 29, 30, 31, 36, 37, 38, 39, 40, 41, 42, 43] (by decide +kernel) (by decide +kernel)
set_option maxRecDepth 20000 in
theorem gX4_colourFor_X4_isFree : GoodIn wsX4_colourFor (wsV RX4 51 RX4 yX4_isFree wsX4_isFree) := goodIn_app (goodIn_of _ (by decide +kernel)) ggX4_colourFor_X4_isFree
set_option maxRecDepth 20000 in
theorem ggX4_colourFor_X4_gap : GoodIn wsX4_colourFor wsX4_gap := goodIn_r _ [35, 1, 18, 19, 20, 4, 21, 22, 23, 24, 14, 15, 16, 17, 36, 37, 38, 39, 40, 41, 42, 43] (by decide +kernel) (by decide +kernel)
set_option maxRecDepth 20000 in
theorem gX4_colourFor_X4_gap : GoodIn wsX4_colourFor (wsV RX4 54 RX4 yX4_gap wsX4_gap) := goodIn_app (goodIn_of _ (by decide +kernel)) ggX4_colourFor_X4_gap
theorem dX4_colourFor_0 : decode cX4_colourFor 0 = .ok (.bipush (-6), 2) := by decide +kernel
theorem dX4_colourFor_2 : decode cX4_colourFor 2 = .ok (.istore 5, 2) := by decide +kernel
theorem dX4_colourFor_4 : decode cX4_colourFor 4 = .ok (.iconst 0, 1) := by decide +kernel
theorem dX4_colourFor_5 : decode cX4_colourFor 5 = .ok (.istore 6, 2) := by decide +kernel
theorem dX4_colourFor_7 : decode cX4_colourFor 7 = .ok (.iload 6, 2) := by decide +kernel
theorem dX4_colourFor_9 : decode cX4_colourFor 9 = .ok (.bipush 6, 2) := by decide +kernel
theorem dX4_colourFor_11 : decode cX4_colourFor 11 = .ok (.if_icmp .ge 99, 3) := by decide +kernel
theorem dX4_colourFor_14 : decode cX4_colourFor 14 = .ok (.iload 6, 2) := by decide +kernel
theorem dX4_colourFor_16 : decode cX4_colourFor 16 = .ok (.iload_n 2, 1) := by decide +kernel
theorem dX4_colourFor_17 : decode cX4_colourFor 17 = .ok (.invokestatic 48, 3) := by decide +kernel
theorem dX4_colourFor_20 : decode cX4_colourFor 20 = .ok (.aload_n 0, 1) := by decide +kernel
theorem dX4_colourFor_21 : decode cX4_colourFor 21 = .ok (.getfield 7, 3) := by decide +kernel
theorem dX4_colourFor_24 : decode cX4_colourFor 24 = .ok (.iconst 0, 1) := by decide +kernel
theorem dX4_colourFor_25 : decode cX4_colourFor 25 = .ok (.iaload, 1) := by decide +kernel
theorem dX4_colourFor_26 : decode cX4_colourFor 26 = .ok (.if_icmp .gt 78, 3) := by decide +kernel
theorem dX4_colourFor_29 : decode cX4_colourFor 29 = .ok (.aload_n 0, 1) := by decide +kernel
theorem dX4_colourFor_30 : decode cX4_colourFor 30 = .ok (.iload_n 1, 1) := by decide +kernel
theorem dX4_colourFor_31 : decode cX4_colourFor 31 = .ok (.iload 6, 2) := by decide +kernel
theorem dX4_colourFor_33 : decode cX4_colourFor 33 = .ok (.iload_n 3, 1) := by decide +kernel
theorem dX4_colourFor_34 : decode cX4_colourFor 34 = .ok (.iload 4, 2) := by decide +kernel
theorem dX4_colourFor_36 : decode cX4_colourFor 36 = .ok (.invokevirtual 51, 3) := by decide +kernel
theorem dX4_colourFor_39 : decode cX4_colourFor 39 = .ok (.ifCond .eq 65, 3) := by decide +kernel
theorem dX4_colourFor_42 : decode cX4_colourFor 42 = .ok (.iload 5, 2) := by decide +kernel
theorem dX4_colourFor_44 : decode cX4_colourFor 44 = .ok (.ifCond .ge 7, 3) := by decide +kernel
theorem dX4_colourFor_47 : decode cX4_colourFor 47 = .ok (.iconst (-1), 1) := by decide +kernel
theorem dX4_colourFor_48 : decode cX4_colourFor 48 = .ok (.goto 20, 3) := by decide +kernel
theorem dX4_colourFor_51 : decode cX4_colourFor 51 = .ok (.aload_n 0, 1) := by decide +kernel
theorem dX4_colourFor_52 : decode cX4_colourFor 52 = .ok (.iload_n 1, 1) := by decide +kernel
theorem dX4_colourFor_53 : decode cX4_colourFor 53 = .ok (.iload 6, 2) := by decide +kernel
theorem dX4_colourFor_55 : decode cX4_colourFor 55 = .ok (.iload_n 3, 1) := by decide +kernel
theorem dX4_colourFor_56 : decode cX4_colourFor 56 = .ok (.invokevirtual 54, 3) := by decide +kernel
theorem dX4_colourFor_59 : decode cX4_colourFor 59 = .ok (.aload_n 0, 1) := by decide +kernel
theorem dX4_colourFor_60 : decode cX4_colourFor 60 = .ok (.iload_n 1, 1) := by decide +kernel
theorem dX4_colourFor_61 : decode cX4_colourFor 61 = .ok (.iload 5, 2) := by decide +kernel
theorem dX4_colourFor_63 : decode cX4_colourFor 63 = .ok (.iload_n 3, 1) := by decide +kernel
theorem dX4_colourFor_64 : decode cX4_colourFor 64 = .ok (.invokevirtual 54, 3) := by decide +kernel
theorem dX4_colourFor_67 : decode cX4_colourFor 67 = .ok (.isub, 1) := by decide +kernel
theorem dX4_colourFor_68 : decode cX4_colourFor 68 = .ok (.istore 7, 2) := by decide +kernel
theorem dX4_colourFor_70 : decode cX4_colourFor 70 = .ok (.iload 7, 2) := by decide +kernel
theorem dX4_colourFor_72 : decode cX4_colourFor 72 = .ok (.ifCond .lt 23, 3) := by decide +kernel
theorem dX4_colourFor_75 : decode cX4_colourFor 75 = .ok (.iload 7, 2) := by decide +kernel
theorem dX4_colourFor_77 : decode cX4_colourFor 77 = .ok (.ifCond .ne 23, 3) := by decide +kernel
theorem dX4_colourFor_80 : decode cX4_colourFor 80 = .ok (.iload 6, 2) := by decide +kernel
theorem dX4_colourFor_82 : decode cX4_colourFor 82 = .ok (.iload_n 2, 1) := by decide +kernel
theorem dX4_colourFor_83 : decode cX4_colourFor 83 = .ok (.invokestatic 48, 3) := by decide +kernel
theorem dX4_colourFor_86 : decode cX4_colourFor 86 = .ok (.iload 5, 2) := by decide +kernel
theorem dX4_colourFor_88 : decode cX4_colourFor 88 = .ok (.iload_n 2, 1) := by decide +kernel
theorem dX4_colourFor_89 : decode cX4_colourFor 89 = .ok (.invokestatic 48, 3) := by decide +kernel
theorem dX4_colourFor_92 : decode cX4_colourFor 92 = .ok (.if_icmp .ge 8, 3) := by decide +kernel
theorem dX4_colourFor_95 : decode cX4_colourFor 95 = .ok (.iload 6, 2) := by decide +kernel
theorem dX4_colourFor_97 : decode cX4_colourFor 97 = .ok (.goto 5, 3) := by decide +kernel
theorem dX4_colourFor_100 : decode cX4_colourFor 100 = .ok (.iload 5, 2) := by decide +kernel
theorem dX4_colourFor_102 : decode cX4_colourFor 102 = .ok (.istore 5, 2) := by decide +kernel
theorem dX4_colourFor_104 : decode cX4_colourFor 104 = .ok (.iinc 6 1, 3) := by decide +kernel
theorem dX4_colourFor_107 : decode cX4_colourFor 107 = .ok (.goto (-100), 3) := by decide +kernel
theorem dX4_colourFor_110 : decode cX4_colourFor 110 = .ok (.iload 5, 2) := by decide +kernel
theorem dX4_colourFor_112 : decode cX4_colourFor 112 = .ok (.ireturn, 1) := by decide +kernel
set_option maxRecDepth 20000 in
theorem ggX4_isLineClear_X4_isOnLine : GoodIn wsX4_isLineClear wsX4_isOnLine := goodIn_r _ [6, 7, 8, 9, 5, 10, 1, 11, 12, 13, 17, 18, 19, 20, 21, 22, 23, 24] (by decide +kernel) (by decide +kernel)
set_option maxRecDepth 20000 in
theorem gX4_isLineClear_X4_isOnLine : GoodIn wsX4_isLineClear (wsV RX4 31 RX4 yX4_isOnLine wsX4_isOnLine) := goodIn_app (goodIn_of _ (by decide +kernel)) ggX4_isLineClear_X4_isOnLine
set_option maxRecDepth 20000 in
theorem ggX4_isLineClear_X4_of : GoodIn wsX4_isLineClear wsX4_of := goodIn_r _ [10, 1, 11, 12, 5, 13, 17, 18, 19, 20, 21, 22, 23, 24] (by decide +kernel) (by decide +kernel)
set_option maxRecDepth 20000 in
theorem gX4_isLineClear_X4_of : GoodIn wsX4_isLineClear (wsV RX4 28 RX4 yX4_of wsX4_of) := goodIn_app (goodIn_of _ (by decide +kernel)) ggX4_isLineClear_X4_of
set_option maxRecDepth 20000 in
theorem ggX4_isLineClear_X4_clash : GoodIn wsX4_isLineClear wsX4_clash := goodIn_r _ [16] (by decide +kernel) (by decide +kernel)
set_option maxRecDepth 20000 in
theorem gX4_isLineClear_X4_clash : GoodIn wsX4_isLineClear (va_wsS RX4 38 yX4_clash wsX4_clash) := goodIn_app (goodIn_of _ (by decide +kernel)) ggX4_isLineClear_X4_clash
theorem dX4_isLineClear_0 : decode cX4_isLineClear 0 = .ok (.iconst 0, 1) := by decide +kernel
theorem dX4_isLineClear_1 : decode cX4_isLineClear 1 = .ok (.istore 4, 2) := by decide +kernel
theorem dX4_isLineClear_3 : decode cX4_isLineClear 3 = .ok (.iload 4, 2) := by decide +kernel
theorem dX4_isLineClear_5 : decode cX4_isLineClear 5 = .ok (.aload_n 0, 1) := by decide +kernel
theorem dX4_isLineClear_6 : decode cX4_isLineClear 6 = .ok (.getfield 7, 3) := by decide +kernel
theorem dX4_isLineClear_9 : decode cX4_isLineClear 9 = .ok (.bipush 10, 2) := by decide +kernel
theorem dX4_isLineClear_11 : decode cX4_isLineClear 11 = .ok (.iaload, 1) := by decide +kernel
theorem dX4_isLineClear_12 : decode cX4_isLineClear 12 = .ok (.if_icmp .ge 43, 3) := by decide +kernel
theorem dX4_isLineClear_15 : decode cX4_isLineClear 15 = .ok (.aload_n 0, 1) := by decide +kernel
theorem dX4_isLineClear_16 : decode cX4_isLineClear 16 = .ok (.iload 4, 2) := by decide +kernel
theorem dX4_isLineClear_18 : decode cX4_isLineClear 18 = .ok (.iload_n 1, 1) := by decide +kernel
theorem dX4_isLineClear_19 : decode cX4_isLineClear 19 = .ok (.invokevirtual 31, 3) := by decide +kernel
theorem dX4_isLineClear_22 : decode cX4_isLineClear 22 = .ok (.ifCond .eq 27, 3) := by decide +kernel
theorem dX4_isLineClear_25 : decode cX4_isLineClear 25 = .ok (.iload_n 2, 1) := by decide +kernel
theorem dX4_isLineClear_26 : decode cX4_isLineClear 26 = .ok (.iload_n 3, 1) := by decide +kernel
theorem dX4_isLineClear_27 : decode cX4_isLineClear 27 = .ok (.aload_n 0, 1) := by decide +kernel
theorem dX4_isLineClear_28 : decode cX4_isLineClear 28 = .ok (.iload 4, 2) := by decide +kernel
theorem dX4_isLineClear_30 : decode cX4_isLineClear 30 = .ok (.iconst 5, 1) := by decide +kernel
theorem dX4_isLineClear_31 : decode cX4_isLineClear 31 = .ok (.invokevirtual 28, 3) := by decide +kernel
theorem dX4_isLineClear_34 : decode cX4_isLineClear 34 = .ok (.aload_n 0, 1) := by decide +kernel
theorem dX4_isLineClear_35 : decode cX4_isLineClear 35 = .ok (.iload 4, 2) := by decide +kernel
theorem dX4_isLineClear_37 : decode cX4_isLineClear 37 = .ok (.iconst 4, 1) := by decide +kernel
theorem dX4_isLineClear_38 : decode cX4_isLineClear 38 = .ok (.invokevirtual 28, 3) := by decide +kernel
theorem dX4_isLineClear_41 : decode cX4_isLineClear 41 = .ok (.invokestatic 38, 3) := by decide +kernel
theorem dX4_isLineClear_44 : decode cX4_isLineClear 44 = .ok (.ifCond .eq 5, 3) := by decide +kernel
theorem dX4_isLineClear_47 : decode cX4_isLineClear 47 = .ok (.iconst 0, 1) := by decide +kernel
theorem dX4_isLineClear_48 : decode cX4_isLineClear 48 = .ok (.ireturn, 1) := by decide +kernel
theorem dX4_isLineClear_49 : decode cX4_isLineClear 49 = .ok (.iinc 4 1, 3) := by decide +kernel
theorem dX4_isLineClear_52 : decode cX4_isLineClear 52 = .ok (.goto (-49), 3) := by decide +kernel
theorem dX4_isLineClear_55 : decode cX4_isLineClear 55 = .ok (.iconst 1, 1) := by decide +kernel
theorem dX4_isLineClear_56 : decode cX4_isLineClear 56 = .ok (.ireturn, 1) := by decide +kernel
theorem dX4_get_0 : decode cX4_get 0 = .ok (.aload_n 0, 1) := by decide +kernel
theorem dX4_get_1 : decode cX4_get 1 = .ok (.iload_n 1, 1) := by decide +kernel
theorem dX4_get_2 : decode cX4_get 2 = .ok (.putfield 58, 3) := by decide +kernel
theorem dX4_get_5 : decode cX4_get 5 = .ok (.aload_n 0, 1) := by decide +kernel
theorem dX4_get_6 : decode cX4_get 6 = .ok (.iload_n 2, 1) := by decide +kernel
theorem dX4_get_7 : decode cX4_get 7 = .ok (.putfield 62, 3) := by decide +kernel
theorem dX4_get_10 : decode cX4_get 10 = .ok (.aload_n 0, 1) := by decide +kernel
theorem dX4_get_11 : decode cX4_get 11 = .ok (.iload_n 3, 1) := by decide +kernel
theorem dX4_get_12 : decode cX4_get 12 = .ok (.putfield 65, 3) := by decide +kernel
theorem dX4_get_15 : decode cX4_get 15 = .ok (.aload_n 0, 1) := by decide +kernel
theorem dX4_get_16 : decode cX4_get 16 = .ok (.iload 4, 2) := by decide +kernel
theorem dX4_get_18 : decode cX4_get 18 = .ok (.putfield 68, 3) := by decide +kernel
theorem dX4_get_21 : decode cX4_get 21 = .ok (.aload_n 0, 1) := by decide +kernel
theorem dX4_get_22 : decode cX4_get 22 = .ok (.iload 5, 2) := by decide +kernel
theorem dX4_get_24 : decode cX4_get 24 = .ok (.putfield 71, 3) := by decide +kernel
theorem dX4_get_27 : decode cX4_get 27 = .ok (.return_, 1) := by decide +kernel
set_option maxRecDepth 20000 in
theorem ggX4_lineFor_X4_isLineClear : GoodIn wsX4_lineFor wsX4_isLineClear := goodIn_r _ [6, 1, 7, 8, 9, 5, 10, 11, 12, 13, 14, 15, 16, 17, 18, 19, 20, 48, 49, 50, 51, 52, 53, 54, 55] (by decide +kernel) (by decide +kernel)
set_option maxRecDepth 20000 in
theorem gX4_lineFor_X4_isLineClear : GoodIn wsX4_lineFor (wsV RX4 74 RX4 yX4_isLineClear wsX4_isLineClear) := goodIn_app (goodIn_of _ (by decide +kernel)) ggX4_lineFor_X4_isLineClear
set_option maxRecDepth 20000 in
theorem ggX4_lineFor_X4_colourFor : GoodIn wsX4_lineFor wsX4_colourFor := goodIn_r _ [24, 1, 25, 26, 5, 27, 28, 29, 30, 31, 32, 33, 34, 35, 36, 37, 38, 39, 11, 12, 13, 14, 15, 16, 17, 18, 19, 20, 40, 41, 42, 43, 44, 45, 46, 47, 48, 49, 50, 51, 52, 53, 54, 55] (by decide +kernel) (by decide +kernel)
set_option maxRecDepth 20000 in
theorem gX4_lineFor_X4_colourFor : GoodIn wsX4_lineFor (wsV RX4 77 RX4 yX4_colourFor wsX4_colourFor) := goodIn_app (goodIn_of _ (by decide +kernel)) ggX4_lineFor_X4_colourFor
theorem dX4_lineFor_0 : decode cX4_lineFor 0 = .ok (.bipush (-6), 2) := by decide +kernel
theorem dX4_lineFor_2 : decode cX4_lineFor 2 = .ok (.istore 5, 2) := by decide +kernel
theorem dX4_lineFor_4 : decode cX4_lineFor 4 = .ok (.iconst 0, 1) := by decide +kernel
theorem dX4_lineFor_5 : decode cX4_lineFor 5 = .ok (.istore 6, 2) := by decide +kernel
theorem dX4_lineFor_7 : decode cX4_lineFor 7 = .ok (.iload 6, 2) := by decide +kernel
theorem dX4_lineFor_9 : decode cX4_lineFor 9 = .ok (.iconst 3, 1) := by decide +kernel
theorem dX4_lineFor_10 : decode cX4_lineFor 10 = .ok (.if_icmp .ge 94, 3) := by decide +kernel
theorem dX4_lineFor_13 : decode cX4_lineFor 13 = .ok (.aload_n 0, 1) := by decide +kernel
theorem dX4_lineFor_14 : decode cX4_lineFor 14 = .ok (.getfield 7, 3) := by decide +kernel
theorem dX4_lineFor_17 : decode cX4_lineFor 17 = .ok (.bipush 6, 2) := by decide +kernel
theorem dX4_lineFor_19 : decode cX4_lineFor 19 = .ok (.iload 6, 2) := by decide +kernel
theorem dX4_lineFor_21 : decode cX4_lineFor 21 = .ok (.iadd, 1) := by decide +kernel
theorem dX4_lineFor_22 : decode cX4_lineFor 22 = .ok (.iaload, 1) := by decide +kernel
theorem dX4_lineFor_23 : decode cX4_lineFor 23 = .ok (.istore 7, 2) := by decide +kernel
theorem dX4_lineFor_25 : decode cX4_lineFor 25 = .ok (.iload 7, 2) := by decide +kernel
theorem dX4_lineFor_27 : decode cX4_lineFor 27 = .ok (.ifCond .le 34, 3) := by decide +kernel
theorem dX4_lineFor_30 : decode cX4_lineFor 30 = .ok (.aload_n 0, 1) := by decide +kernel
theorem dX4_lineFor_31 : decode cX4_lineFor 31 = .ok (.iload 6, 2) := by decide +kernel
theorem dX4_lineFor_33 : decode cX4_lineFor 33 = .ok (.iload_n 3, 1) := by decide +kernel
theorem dX4_lineFor_34 : decode cX4_lineFor 34 = .ok (.iload 4, 2) := by decide +kernel
theorem dX4_lineFor_36 : decode cX4_lineFor 36 = .ok (.invokevirtual 74, 3) := by decide +kernel
theorem dX4_lineFor_39 : decode cX4_lineFor 39 = .ok (.ifCond .eq 22, 3) := by decide +kernel
theorem dX4_lineFor_42 : decode cX4_lineFor 42 = .ok (.aload_n 0, 1) := by decide +kernel
theorem dX4_lineFor_43 : decode cX4_lineFor 43 = .ok (.iload_n 1, 1) := by decide +kernel
theorem dX4_lineFor_44 : decode cX4_lineFor 44 = .ok (.iload_n 2, 1) := by decide +kernel
theorem dX4_lineFor_45 : decode cX4_lineFor 45 = .ok (.iload_n 3, 1) := by decide +kernel
theorem dX4_lineFor_46 : decode cX4_lineFor 46 = .ok (.iload 7, 2) := by decide +kernel
theorem dX4_lineFor_48 : decode cX4_lineFor 48 = .ok (.iadd, 1) := by decide +kernel
theorem dX4_lineFor_49 : decode cX4_lineFor 49 = .ok (.iload 4, 2) := by decide +kernel
theorem dX4_lineFor_51 : decode cX4_lineFor 51 = .ok (.invokevirtual 77, 3) := by decide +kernel
theorem dX4_lineFor_54 : decode cX4_lineFor 54 = .ok (.ifCond .lt 7, 3) := by decide +kernel
theorem dX4_lineFor_57 : decode cX4_lineFor 57 = .ok (.iconst 1, 1) := by decide +kernel
theorem dX4_lineFor_58 : decode cX4_lineFor 58 = .ok (.goto 4, 3) := by decide +kernel
theorem dX4_lineFor_61 : decode cX4_lineFor 61 = .ok (.iconst 0, 1) := by decide +kernel
theorem dX4_lineFor_62 : decode cX4_lineFor 62 = .ok (.istore 8, 2) := by decide +kernel
theorem dX4_lineFor_64 : decode cX4_lineFor 64 = .ok (.iload 8, 2) := by decide +kernel
theorem dX4_lineFor_66 : decode cX4_lineFor 66 = .ok (.ifCond .eq 28, 3) := by decide +kernel
theorem dX4_lineFor_69 : decode cX4_lineFor 69 = .ok (.iload 5, 2) := by decide +kernel
theorem dX4_lineFor_71 : decode cX4_lineFor 71 = .ok (.ifCond .lt 18, 3) := by decide +kernel
theorem dX4_lineFor_74 : decode cX4_lineFor 74 = .ok (.iload 7, 2) := by decide +kernel
theorem dX4_lineFor_76 : decode cX4_lineFor 76 = .ok (.aload_n 0, 1) := by decide +kernel
theorem dX4_lineFor_77 : decode cX4_lineFor 77 = .ok (.getfield 7, 3) := by decide +kernel
theorem dX4_lineFor_80 : decode cX4_lineFor 80 = .ok (.bipush 6, 2) := by decide +kernel
theorem dX4_lineFor_82 : decode cX4_lineFor 82 = .ok (.iload 5, 2) := by decide +kernel
theorem dX4_lineFor_84 : decode cX4_lineFor 84 = .ok (.iadd, 1) := by decide +kernel
theorem dX4_lineFor_85 : decode cX4_lineFor 85 = .ok (.iaload, 1) := by decide +kernel
theorem dX4_lineFor_86 : decode cX4_lineFor 86 = .ok (.if_icmp .ge 8, 3) := by decide +kernel
theorem dX4_lineFor_89 : decode cX4_lineFor 89 = .ok (.iload 6, 2) := by decide +kernel
theorem dX4_lineFor_91 : decode cX4_lineFor 91 = .ok (.goto 5, 3) := by decide +kernel
theorem dX4_lineFor_94 : decode cX4_lineFor 94 = .ok (.iload 5, 2) := by decide +kernel
theorem dX4_lineFor_96 : decode cX4_lineFor 96 = .ok (.istore 5, 2) := by decide +kernel
theorem dX4_lineFor_98 : decode cX4_lineFor 98 = .ok (.iinc 6 1, 3) := by decide +kernel
theorem dX4_lineFor_101 : decode cX4_lineFor 101 = .ok (.goto (-94), 3) := by decide +kernel
theorem dX4_lineFor_104 : decode cX4_lineFor 104 = .ok (.iload 5, 2) := by decide +kernel
theorem dX4_lineFor_106 : decode cX4_lineFor 106 = .ok (.ireturn, 1) := by decide +kernel
set_option maxRecDepth 20000 in
theorem ggX4_pieceOf_X4_isFree : GoodIn wsX4_pieceOf wsX4_isFree := goodIn_r _ [5, 6, 7, 8, 9, 4, 10, 11, 12, 13, 14, 15, 16, 17, 18, 19, 20, 21, 22, 23, 24, 25, 26, 27, 28, 29, 30, 31, 32, 33, 34, 35, 36] (by decide +kernel) (by decide +kernel)
set_option maxRecDepth 20000 in
theorem gX4_pieceOf_X4_isFree : GoodIn wsX4_pieceOf (wsV RX4 51 RX4 yX4_isFree wsX4_isFree) := goodIn_app (goodIn_of _ (by decide +kernel)) ggX4_pieceOf_X4_isFree
theorem dX4_pieceOf_0 : decode cX4_pieceOf 0 = .ok (.iload 4, 2) := by decide +kernel
theorem dX4_pieceOf_2 : decode cX4_pieceOf 2 = .ok (.istore 5, 2) := by decide +kernel
theorem dX4_pieceOf_4 : decode cX4_pieceOf 4 = .ok (.iload 5, 2) := by decide +kernel
theorem dX4_pieceOf_6 : decode cX4_pieceOf 6 = .ok (.ifCond .le 52, 3) := by decide +kernel
theorem dX4_pieceOf_9 : decode cX4_pieceOf 9 = .ok (.iconst 0, 1) := by decide +kernel
theorem dX4_pieceOf_10 : decode cX4_pieceOf 10 = .ok (.istore 6, 2) := by decide +kernel
theorem dX4_pieceOf_12 : decode cX4_pieceOf 12 = .ok (.iload 6, 2) := by decide +kernel
theorem dX4_pieceOf_14 : decode cX4_pieceOf 14 = .ok (.iload 5, 2) := by decide +kernel
theorem dX4_pieceOf_16 : decode cX4_pieceOf 16 = .ok (.iadd, 1) := by decide +kernel
theorem dX4_pieceOf_17 : decode cX4_pieceOf 17 = .ok (.iload 4, 2) := by decide +kernel
theorem dX4_pieceOf_19 : decode cX4_pieceOf 19 = .ok (.if_icmp .gt 33, 3) := by decide +kernel
theorem dX4_pieceOf_22 : decode cX4_pieceOf 22 = .ok (.aload_n 0, 1) := by decide +kernel
theorem dX4_pieceOf_23 : decode cX4_pieceOf 23 = .ok (.iload_n 1, 1) := by decide +kernel
theorem dX4_pieceOf_24 : decode cX4_pieceOf 24 = .ok (.iload_n 2, 1) := by decide +kernel
theorem dX4_pieceOf_25 : decode cX4_pieceOf 25 = .ok (.iload_n 3, 1) := by decide +kernel
theorem dX4_pieceOf_26 : decode cX4_pieceOf 26 = .ok (.iload 6, 2) := by decide +kernel
theorem dX4_pieceOf_28 : decode cX4_pieceOf 28 = .ok (.iadd, 1) := by decide +kernel
theorem dX4_pieceOf_29 : decode cX4_pieceOf 29 = .ok (.iload 5, 2) := by decide +kernel
theorem dX4_pieceOf_31 : decode cX4_pieceOf 31 = .ok (.invokevirtual 51, 3) := by decide +kernel
theorem dX4_pieceOf_34 : decode cX4_pieceOf 34 = .ok (.ifCond .eq 12, 3) := by decide +kernel
theorem dX4_pieceOf_37 : decode cX4_pieceOf 37 = .ok (.bipush 100, 2) := by decide +kernel
theorem dX4_pieceOf_39 : decode cX4_pieceOf 39 = .ok (.iload 5, 2) := by decide +kernel
theorem dX4_pieceOf_41 : decode cX4_pieceOf 41 = .ok (.imul, 1) := by decide +kernel
theorem dX4_pieceOf_42 : decode cX4_pieceOf 42 = .ok (.iload 6, 2) := by decide +kernel
theorem dX4_pieceOf_44 : decode cX4_pieceOf 44 = .ok (.iadd, 1) := by decide +kernel
theorem dX4_pieceOf_45 : decode cX4_pieceOf 45 = .ok (.ireturn, 1) := by decide +kernel
theorem dX4_pieceOf_46 : decode cX4_pieceOf 46 = .ok (.iinc 6 1, 3) := by decide +kernel
theorem dX4_pieceOf_49 : decode cX4_pieceOf 49 = .ok (.goto (-37), 3) := by decide +kernel
theorem dX4_pieceOf_52 : decode cX4_pieceOf 52 = .ok (.iinc 5 (-1), 3) := by decide +kernel
theorem dX4_pieceOf_55 : decode cX4_pieceOf 55 = .ok (.goto (-51), 3) := by decide +kernel
theorem dX4_pieceOf_58 : decode cX4_pieceOf 58 = .ok (.iconst 0, 1) := by decide +kernel
theorem dX4_pieceOf_59 : decode cX4_pieceOf 59 = .ok (.ireturn, 1) := by decide +kernel
set_option maxRecDepth 20000 in
theorem ggX4_cut_X4_away : GoodIn wsX4_cut wsX4_away := goodIn_r _ [5] (by decide +kernel) (by decide +kernel)
set_option maxRecDepth 20000 in
theorem gX4_cut_X4_away : GoodIn wsX4_cut (va_wsS RX4 48 yX4_away wsX4_away) := goodIn_app (goodIn_of _ (by decide +kernel)) ggX4_cut_X4_away
set_option maxRecDepth 20000 in
theorem ggX4_cut_X4_pieceOf : GoodIn wsX4_cut wsX4_pieceOf := goodIn_r _ [9, 10, 11, 12, 4, 13, 1, 14, 15, 16, 17, 18, 19, 20, 21, 22, 23, 24, 25, 26, 27, 28, 29, 30, 31, 32, 33, 34, 35, 45, 46, 47, 48, 49, 50, 51, 52] (by decide +kernel) (by decide +kernel)
set_option maxRecDepth 20000 in
theorem gX4_cut_X4_pieceOf : GoodIn wsX4_cut (wsV RX4 81 RX4 yX4_pieceOf wsX4_pieceOf) := goodIn_app (goodIn_of _ (by decide +kernel)) ggX4_cut_X4_pieceOf
set_option maxRecDepth 20000 in
theorem ggX4_cut_X4_get : GoodIn wsX4_cut wsX4_get := goodIn_r _ [39, 40, 41, 42, 43, 44, 45, 46, 47, 48, 49, 50, 51, 52] (by decide +kernel) (by decide +kernel)
set_option maxRecDepth 20000 in
theorem gX4_cut_X4_get : GoodIn wsX4_cut (wsV RX4 84 RX4 yX4_get wsX4_get) := goodIn_app (goodIn_of _ (by decide +kernel)) ggX4_cut_X4_get
theorem dX4_cut_0 : decode cX4_cut 0 = .ok (.bipush (-6), 2) := by decide +kernel
theorem dX4_cut_2 : decode cX4_cut 2 = .ok (.istore 5, 2) := by decide +kernel
theorem dX4_cut_4 : decode cX4_cut 4 = .ok (.iconst 0, 1) := by decide +kernel
theorem dX4_cut_5 : decode cX4_cut 5 = .ok (.istore 6, 2) := by decide +kernel
theorem dX4_cut_7 : decode cX4_cut 7 = .ok (.iconst 0, 1) := by decide +kernel
theorem dX4_cut_8 : decode cX4_cut 8 = .ok (.istore 7, 2) := by decide +kernel
theorem dX4_cut_10 : decode cX4_cut 10 = .ok (.iload 7, 2) := by decide +kernel
theorem dX4_cut_12 : decode cX4_cut 12 = .ok (.bipush 6, 2) := by decide +kernel
theorem dX4_cut_14 : decode cX4_cut 14 = .ok (.if_icmp .ge 90, 3) := by decide +kernel
theorem dX4_cut_17 : decode cX4_cut 17 = .ok (.iload 7, 2) := by decide +kernel
theorem dX4_cut_19 : decode cX4_cut 19 = .ok (.iload_n 2, 1) := by decide +kernel
theorem dX4_cut_20 : decode cX4_cut 20 = .ok (.invokestatic 48, 3) := by decide +kernel
theorem dX4_cut_23 : decode cX4_cut 23 = .ok (.aload_n 0, 1) := by decide +kernel
theorem dX4_cut_24 : decode cX4_cut 24 = .ok (.getfield 7, 3) := by decide +kernel
theorem dX4_cut_27 : decode cX4_cut 27 = .ok (.iconst 0, 1) := by decide +kernel
theorem dX4_cut_28 : decode cX4_cut 28 = .ok (.iaload, 1) := by decide +kernel
theorem dX4_cut_29 : decode cX4_cut 29 = .ok (.if_icmp .gt 69, 3) := by decide +kernel
theorem dX4_cut_32 : decode cX4_cut 32 = .ok (.aload_n 0, 1) := by decide +kernel
theorem dX4_cut_33 : decode cX4_cut 33 = .ok (.iload_n 1, 1) := by decide +kernel
theorem dX4_cut_34 : decode cX4_cut 34 = .ok (.iload 7, 2) := by decide +kernel
theorem dX4_cut_36 : decode cX4_cut 36 = .ok (.iload_n 3, 1) := by decide +kernel
theorem dX4_cut_37 : decode cX4_cut 37 = .ok (.iload 4, 2) := by decide +kernel
theorem dX4_cut_39 : decode cX4_cut 39 = .ok (.invokevirtual 81, 3) := by decide +kernel
theorem dX4_cut_42 : decode cX4_cut 42 = .ok (.istore 8, 2) := by decide +kernel
theorem dX4_cut_44 : decode cX4_cut 44 = .ok (.iload 5, 2) := by decide +kernel
theorem dX4_cut_46 : decode cX4_cut 46 = .ok (.ifCond .lt 44, 3) := by decide +kernel
theorem dX4_cut_49 : decode cX4_cut 49 = .ok (.iload 8, 2) := by decide +kernel
theorem dX4_cut_51 : decode cX4_cut 51 = .ok (.bipush 100, 2) := by decide +kernel
theorem dX4_cut_53 : decode cX4_cut 53 = .ok (.idiv, 1) := by decide +kernel
theorem dX4_cut_54 : decode cX4_cut 54 = .ok (.iload 6, 2) := by decide +kernel
theorem dX4_cut_56 : decode cX4_cut 56 = .ok (.bipush 100, 2) := by decide +kernel
theorem dX4_cut_58 : decode cX4_cut 58 = .ok (.idiv, 1) := by decide +kernel
theorem dX4_cut_59 : decode cX4_cut 59 = .ok (.if_icmp .gt 31, 3) := by decide +kernel
theorem dX4_cut_62 : decode cX4_cut 62 = .ok (.iload 8, 2) := by decide +kernel
theorem dX4_cut_64 : decode cX4_cut 64 = .ok (.bipush 100, 2) := by decide +kernel
theorem dX4_cut_66 : decode cX4_cut 66 = .ok (.idiv, 1) := by decide +kernel
theorem dX4_cut_67 : decode cX4_cut 67 = .ok (.iload 6, 2) := by decide +kernel
theorem dX4_cut_69 : decode cX4_cut 69 = .ok (.bipush 100, 2) := by decide +kernel
theorem dX4_cut_71 : decode cX4_cut 71 = .ok (.idiv, 1) := by decide +kernel
theorem dX4_cut_72 : decode cX4_cut 72 = .ok (.if_icmp .ne 26, 3) := by decide +kernel
theorem dX4_cut_75 : decode cX4_cut 75 = .ok (.iload 7, 2) := by decide +kernel
theorem dX4_cut_77 : decode cX4_cut 77 = .ok (.iload_n 2, 1) := by decide +kernel
theorem dX4_cut_78 : decode cX4_cut 78 = .ok (.invokestatic 48, 3) := by decide +kernel
theorem dX4_cut_81 : decode cX4_cut 81 = .ok (.iload 5, 2) := by decide +kernel
theorem dX4_cut_83 : decode cX4_cut 83 = .ok (.iload_n 2, 1) := by decide +kernel
theorem dX4_cut_84 : decode cX4_cut 84 = .ok (.invokestatic 48, 3) := by decide +kernel
theorem dX4_cut_87 : decode cX4_cut 87 = .ok (.if_icmp .ge 11, 3) := by decide +kernel
theorem dX4_cut_90 : decode cX4_cut 90 = .ok (.iload 7, 2) := by decide +kernel
theorem dX4_cut_92 : decode cX4_cut 92 = .ok (.istore 5, 2) := by decide +kernel
theorem dX4_cut_94 : decode cX4_cut 94 = .ok (.iload 8, 2) := by decide +kernel
theorem dX4_cut_96 : decode cX4_cut 96 = .ok (.istore 6, 2) := by decide +kernel
theorem dX4_cut_98 : decode cX4_cut 98 = .ok (.iinc 7 1, 3) := by decide +kernel
theorem dX4_cut_101 : decode cX4_cut 101 = .ok (.goto (-91), 3) := by decide +kernel
theorem dX4_cut_104 : decode cX4_cut 104 = .ok (.iload 6, 2) := by decide +kernel
theorem dX4_cut_106 : decode cX4_cut 106 = .ok (.bipush 100, 2) := by decide +kernel
theorem dX4_cut_108 : decode cX4_cut 108 = .ok (.idiv, 1) := by decide +kernel
theorem dX4_cut_109 : decode cX4_cut 109 = .ok (.aload_n 0, 1) := by decide +kernel
theorem dX4_cut_110 : decode cX4_cut 110 = .ok (.getfield 7, 3) := by decide +kernel
theorem dX4_cut_113 : decode cX4_cut 113 = .ok (.iconst 3, 1) := by decide +kernel
theorem dX4_cut_114 : decode cX4_cut 114 = .ok (.iaload, 1) := by decide +kernel
theorem dX4_cut_115 : decode cX4_cut 115 = .ok (.if_icmp .lt 24, 3) := by decide +kernel
theorem dX4_cut_118 : decode cX4_cut 118 = .ok (.aload_n 0, 1) := by decide +kernel
theorem dX4_cut_119 : decode cX4_cut 119 = .ok (.iconst 2, 1) := by decide +kernel
theorem dX4_cut_120 : decode cX4_cut 120 = .ok (.iload 5, 2) := by decide +kernel
theorem dX4_cut_122 : decode cX4_cut 122 = .ok (.iload_n 3, 1) := by decide +kernel
theorem dX4_cut_123 : decode cX4_cut 123 = .ok (.iload 6, 2) := by decide +kernel
theorem dX4_cut_125 : decode cX4_cut 125 = .ok (.bipush 100, 2) := by decide +kernel
theorem dX4_cut_127 : decode cX4_cut 127 = .ok (.irem, 1) := by decide +kernel
theorem dX4_cut_128 : decode cX4_cut 128 = .ok (.iadd, 1) := by decide +kernel
theorem dX4_cut_129 : decode cX4_cut 129 = .ok (.iload 6, 2) := by decide +kernel
theorem dX4_cut_131 : decode cX4_cut 131 = .ok (.bipush 100, 2) := by decide +kernel
theorem dX4_cut_133 : decode cX4_cut 133 = .ok (.idiv, 1) := by decide +kernel
theorem dX4_cut_134 : decode cX4_cut 134 = .ok (.bipush (-6), 2) := by decide +kernel
theorem dX4_cut_136 : decode cX4_cut 136 = .ok (.invokevirtual 84, 3) := by decide +kernel
theorem dX4_cut_139 : decode cX4_cut 139 = .ok (.return_, 1) := by decide +kernel
set_option maxRecDepth 20000 in
theorem ggX4_place_X4_colourFor : GoodIn wsX4_place wsX4_colourFor := goodIn_r _ [6, 1, 7, 8, 5, 9, 10, 11, 12, 13, 14, 15, 16, 17, 18, 19, 20, 21, 22, 23, 24, 25, 26, 27, 28, 29, 30, 31, 32, 33, 34, 35, 36, 37, 38, 39, 69, 70, 71, 72, 73, 74, 75, 76] (by decide +kernel) (by decide +kernel)
set_option maxRecDepth 20000 in
theorem gX4_place_X4_colourFor : GoodIn wsX4_place (wsV RX4 77 RX4 yX4_colourFor wsX4_colourFor) := goodIn_app (goodIn_of _ (by decide +kernel)) ggX4_place_X4_colourFor
set_option maxRecDepth 20000 in
theorem ggX4_place_X4_get : GoodIn wsX4_place wsX4_get := goodIn_r _ [43, 44, 45, 46, 47, 48, 69, 70, 71, 72, 73, 74, 75, 76] (by decide +kernel) (by decide +kernel)
set_option maxRecDepth 20000 in
theorem gX4_place_X4_get : GoodIn wsX4_place (wsV RX4 84 RX4 yX4_get wsX4_get) := goodIn_app (goodIn_of _ (by decide +kernel)) ggX4_place_X4_get
set_option maxRecDepth 20000 in
theorem ggX4_place_X4_lineFor : GoodIn wsX4_place wsX4_lineFor := goodIn_r _ [52, 1, 53, 54, 55, 5, 56, 57, 58, 59, 60, 22, 23, 24, 25, 26, 27, 28, 29, 30, 31, 2, 3, 4, 6, 7, 8, 9, 10, 11, 12, 13, 14, 15, 16, 17, 18, 19, 20, 21, 32, 33, 34, 35, 36, 37, 38, 39, 69, 70, 71, 72, 73, 74, 75, 76] (by decide +kernel) (by decide +kernel)
set_option maxRecDepth 20000 in
theorem gX4_place_X4_lineFor : GoodIn wsX4_place (wsV RX4 88 RX4 yX4_lineFor wsX4_lineFor) := goodIn_app (goodIn_of _ (by decide +kernel)) ggX4_place_X4_lineFor
set_option maxRecDepth 20000 in
theorem ggX4_place_X4_cut : GoodIn wsX4_place wsX4_cut := goodIn_r _ [64, 1, 7, 8, 5, 9, 65, 66, 67, 68, 10, 11, 12, 13, 14, 15, 16, 17, 18, 19, 20, 21, 22, 23, 24, 25, 26, 27, 28, 29, 30, 31, 32, 33, 34, 35, 40, 41, 42, 43, 44, 45, 46, 47, 48, 69, 70, 71, 72, 73, 74, 75, 76] (by decide +kernel) (by decide +kernel)
set_option maxRecDepth 20000 in
theorem gX4_place_X4_cut : GoodIn wsX4_place (wsV RX4 91 RX4 yX4_cut wsX4_cut) := goodIn_app (goodIn_of _ (by decide +kernel)) ggX4_place_X4_cut
theorem dX4_place_0 : decode cX4_place 0 = .ok (.aload_n 0, 1) := by decide +kernel
theorem dX4_place_1 : decode cX4_place 1 = .ok (.iload_n 1, 1) := by decide +kernel
theorem dX4_place_2 : decode cX4_place 2 = .ok (.iload_n 2, 1) := by decide +kernel
theorem dX4_place_3 : decode cX4_place 3 = .ok (.iload_n 3, 1) := by decide +kernel
theorem dX4_place_4 : decode cX4_place 4 = .ok (.iload 4, 2) := by decide +kernel
theorem dX4_place_6 : decode cX4_place 6 = .ok (.invokevirtual 77, 3) := by decide +kernel
theorem dX4_place_9 : decode cX4_place 9 = .ok (.istore 5, 2) := by decide +kernel
theorem dX4_place_11 : decode cX4_place 11 = .ok (.iload 5, 2) := by decide +kernel
theorem dX4_place_13 : decode cX4_place 13 = .ok (.ifCond .lt 16, 3) := by decide +kernel
theorem dX4_place_16 : decode cX4_place 16 = .ok (.aload_n 0, 1) := by decide +kernel
theorem dX4_place_17 : decode cX4_place 17 = .ok (.iconst 0, 1) := by decide +kernel
theorem dX4_place_18 : decode cX4_place 18 = .ok (.iload 5, 2) := by decide +kernel
theorem dX4_place_20 : decode cX4_place 20 = .ok (.iload_n 3, 1) := by decide +kernel
theorem dX4_place_21 : decode cX4_place 21 = .ok (.iload 4, 2) := by decide +kernel
theorem dX4_place_23 : decode cX4_place 23 = .ok (.bipush (-6), 2) := by decide +kernel
theorem dX4_place_25 : decode cX4_place 25 = .ok (.invokevirtual 84, 3) := by decide +kernel
theorem dX4_place_28 : decode cX4_place 28 = .ok (.return_, 1) := by decide +kernel
theorem dX4_place_29 : decode cX4_place 29 = .ok (.aload_n 0, 1) := by decide +kernel
theorem dX4_place_30 : decode cX4_place 30 = .ok (.iload_n 1, 1) := by decide +kernel
theorem dX4_place_31 : decode cX4_place 31 = .ok (.iload_n 2, 1) := by decide +kernel
theorem dX4_place_32 : decode cX4_place 32 = .ok (.iload_n 3, 1) := by decide +kernel
theorem dX4_place_33 : decode cX4_place 33 = .ok (.iload 4, 2) := by decide +kernel
theorem dX4_place_35 : decode cX4_place 35 = .ok (.invokevirtual 88, 3) := by decide +kernel
theorem dX4_place_38 : decode cX4_place 38 = .ok (.istore 6, 2) := by decide +kernel
theorem dX4_place_40 : decode cX4_place 40 = .ok (.iload 6, 2) := by decide +kernel
theorem dX4_place_42 : decode cX4_place 42 = .ok (.ifCond .lt 39, 3) := by decide +kernel
theorem dX4_place_45 : decode cX4_place 45 = .ok (.iload_n 3, 1) := by decide +kernel
theorem dX4_place_46 : decode cX4_place 46 = .ok (.aload_n 0, 1) := by decide +kernel
theorem dX4_place_47 : decode cX4_place 47 = .ok (.getfield 7, 3) := by decide +kernel
theorem dX4_place_50 : decode cX4_place 50 = .ok (.bipush 6, 2) := by decide +kernel
theorem dX4_place_52 : decode cX4_place 52 = .ok (.iload 6, 2) := by decide +kernel
theorem dX4_place_54 : decode cX4_place 54 = .ok (.iadd, 1) := by decide +kernel
theorem dX4_place_55 : decode cX4_place 55 = .ok (.iaload, 1) := by decide +kernel
theorem dX4_place_56 : decode cX4_place 56 = .ok (.iadd, 1) := by decide +kernel
theorem dX4_place_57 : decode cX4_place 57 = .ok (.istore 7, 2) := by decide +kernel
theorem dX4_place_59 : decode cX4_place 59 = .ok (.aload_n 0, 1) := by decide +kernel
theorem dX4_place_60 : decode cX4_place 60 = .ok (.iconst 1, 1) := by decide +kernel
theorem dX4_place_61 : decode cX4_place 61 = .ok (.aload_n 0, 1) := by decide +kernel
theorem dX4_place_62 : decode cX4_place 62 = .ok (.iload_n 1, 1) := by decide +kernel
theorem dX4_place_63 : decode cX4_place 63 = .ok (.iload_n 2, 1) := by decide +kernel
theorem dX4_place_64 : decode cX4_place 64 = .ok (.iload 7, 2) := by decide +kernel
theorem dX4_place_66 : decode cX4_place 66 = .ok (.iload 4, 2) := by decide +kernel
theorem dX4_place_68 : decode cX4_place 68 = .ok (.invokevirtual 77, 3) := by decide +kernel
theorem dX4_place_71 : decode cX4_place 71 = .ok (.iload 7, 2) := by decide +kernel
theorem dX4_place_73 : decode cX4_place 73 = .ok (.iload 4, 2) := by decide +kernel
theorem dX4_place_75 : decode cX4_place 75 = .ok (.iload 6, 2) := by decide +kernel
theorem dX4_place_77 : decode cX4_place 77 = .ok (.invokevirtual 84, 3) := by decide +kernel
theorem dX4_place_80 : decode cX4_place 80 = .ok (.return_, 1) := by decide +kernel
theorem dX4_place_81 : decode cX4_place 81 = .ok (.aload_n 0, 1) := by decide +kernel
theorem dX4_place_82 : decode cX4_place 82 = .ok (.iconst 3, 1) := by decide +kernel
theorem dX4_place_83 : decode cX4_place 83 = .ok (.bipush (-6), 2) := by decide +kernel
theorem dX4_place_85 : decode cX4_place 85 = .ok (.bipush (-6), 2) := by decide +kernel
theorem dX4_place_87 : decode cX4_place 87 = .ok (.iconst 0, 1) := by decide +kernel
theorem dX4_place_88 : decode cX4_place 88 = .ok (.bipush (-6), 2) := by decide +kernel
theorem dX4_place_90 : decode cX4_place 90 = .ok (.invokevirtual 84, 3) := by decide +kernel
theorem dX4_place_93 : decode cX4_place 93 = .ok (.aload_n 0, 1) := by decide +kernel
theorem dX4_place_94 : decode cX4_place 94 = .ok (.getfield 7, 3) := by decide +kernel
theorem dX4_place_97 : decode cX4_place 97 = .ok (.iconst 4, 1) := by decide +kernel
theorem dX4_place_98 : decode cX4_place 98 = .ok (.iaload, 1) := by decide +kernel
theorem dX4_place_99 : decode cX4_place 99 = .ok (.iconst 1, 1) := by decide +kernel
theorem dX4_place_100 : decode cX4_place 100 = .ok (.if_icmp .ne 12, 3) := by decide +kernel
theorem dX4_place_103 : decode cX4_place 103 = .ok (.aload_n 0, 1) := by decide +kernel
theorem dX4_place_104 : decode cX4_place 104 = .ok (.iload_n 1, 1) := by decide +kernel
theorem dX4_place_105 : decode cX4_place 105 = .ok (.iload_n 2, 1) := by decide +kernel
theorem dX4_place_106 : decode cX4_place 106 = .ok (.iload_n 3, 1) := by decide +kernel
theorem dX4_place_107 : decode cX4_place 107 = .ok (.iload 4, 2) := by decide +kernel
theorem dX4_place_109 : decode cX4_place 109 = .ok (.invokevirtual 91, 3) := by decide +kernel
theorem dX4_place_112 : decode cX4_place 112 = .ok (.return_, 1) := by decide +kernel
theorem dX4_comes_0 : decode cX4_comes 0 = .ok (.aload_n 0, 1) := by decide +kernel
theorem dX4_comes_1 : decode cX4_comes 1 = .ok (.getfield 7, 3) := by decide +kernel
theorem dX4_comes_4 : decode cX4_comes 4 = .ok (.bipush 9, 2) := by decide +kernel
theorem dX4_comes_6 : decode cX4_comes 6 = .ok (.iaload, 1) := by decide +kernel
theorem dX4_comes_7 : decode cX4_comes 7 = .ok (.aload_n 0, 1) := by decide +kernel
theorem dX4_comes_8 : decode cX4_comes 8 = .ok (.getfield 7, 3) := by decide +kernel
theorem dX4_comes_11 : decode cX4_comes 11 = .ok (.iconst 1, 1) := by decide +kernel
theorem dX4_comes_12 : decode cX4_comes 12 = .ok (.iaload, 1) := by decide +kernel
theorem dX4_comes_13 : decode cX4_comes 13 = .ok (.iload_n 2, 1) := by decide +kernel
theorem dX4_comes_14 : decode cX4_comes 14 = .ok (.imul, 1) := by decide +kernel
theorem dX4_comes_15 : decode cX4_comes 15 = .ok (.iadd, 1) := by decide +kernel
theorem dX4_comes_16 : decode cX4_comes 16 = .ok (.aload_n 0, 1) := by decide +kernel
theorem dX4_comes_17 : decode cX4_comes 17 = .ok (.getfield 7, 3) := by decide +kernel
theorem dX4_comes_20 : decode cX4_comes 20 = .ok (.iconst 2, 1) := by decide +kernel
theorem dX4_comes_21 : decode cX4_comes 21 = .ok (.iaload, 1) := by decide +kernel
theorem dX4_comes_22 : decode cX4_comes 22 = .ok (.iload_n 1, 1) := by decide +kernel
theorem dX4_comes_23 : decode cX4_comes 23 = .ok (.imul, 1) := by decide +kernel
theorem dX4_comes_24 : decode cX4_comes 24 = .ok (.iadd, 1) := by decide +kernel
theorem dX4_comes_25 : decode cX4_comes 25 = .ok (.ireturn, 1) := by decide +kernel
set_option maxRecDepth 20000 in
theorem ggX4_refusal_X4_isOut : GoodIn wsX4_refusal wsX4_isOut := goodIn_r _ [4, 5, 6, 3, 7] (by decide +kernel) (by decide +kernel)
set_option maxRecDepth 20000 in
theorem gX4_refusal_X4_isOut : GoodIn wsX4_refusal (va_wsS RX4 95 yX4_isOut wsX4_isOut) := goodIn_app (goodIn_of _ (by decide +kernel)) ggX4_refusal_X4_isOut
set_option maxRecDepth 20000 in
theorem ggX4_refusal_X4_isColour : GoodIn wsX4_refusal wsX4_isColour := goodIn_r _ [10, 5, 6, 3, 7] (by decide +kernel) (by decide +kernel)
set_option maxRecDepth 20000 in
theorem gX4_refusal_X4_isColour : GoodIn wsX4_refusal (va_wsS RX4 99 yX4_isColour wsX4_isColour) := goodIn_app (goodIn_of _ (by decide +kernel)) ggX4_refusal_X4_isColour
set_option maxRecDepth 20000 in
theorem ggX4_refusal_X4_in : GoodIn wsX4_refusal wsX4_in := goodIn_r _ [7] (by decide +kernel) (by decide +kernel)
set_option maxRecDepth 20000 in
theorem gX4_refusal_X4_in : GoodIn wsX4_refusal (va_wsS RX4 24 yX4_in wsX4_in) := goodIn_app (goodIn_of _ (by decide +kernel)) ggX4_refusal_X4_in
theorem dX4_refusal_0 : decode cX4_refusal 0 = .ok (.iload_n 0, 1) := by decide +kernel
theorem dX4_refusal_1 : decode cX4_refusal 1 = .ok (.invokestatic 95, 3) := by decide +kernel
theorem dX4_refusal_4 : decode cX4_refusal 4 = .ok (.ifCond .eq 19, 3) := by decide +kernel
theorem dX4_refusal_7 : decode cX4_refusal 7 = .ok (.iload_n 1, 1) := by decide +kernel
theorem dX4_refusal_8 : decode cX4_refusal 8 = .ok (.invokestatic 99, 3) := by decide +kernel
theorem dX4_refusal_11 : decode cX4_refusal 11 = .ok (.ifCond .eq 12, 3) := by decide +kernel
theorem dX4_refusal_14 : decode cX4_refusal 14 = .ok (.iload_n 2, 1) := by decide +kernel
theorem dX4_refusal_15 : decode cX4_refusal 15 = .ok (.iconst 0, 1) := by decide +kernel
theorem dX4_refusal_16 : decode cX4_refusal 16 = .ok (.iconst 2, 1) := by decide +kernel
theorem dX4_refusal_17 : decode cX4_refusal 17 = .ok (.invokestatic 24, 3) := by decide +kernel
theorem dX4_refusal_20 : decode cX4_refusal 20 = .ok (.ifCond .ne 5, 3) := by decide +kernel
theorem dX4_refusal_23 : decode cX4_refusal 23 = .ok (.iconst (-1), 1) := by decide +kernel
theorem dX4_refusal_24 : decode cX4_refusal 24 = .ok (.ireturn, 1) := by decide +kernel
theorem dX4_refusal_25 : decode cX4_refusal 25 = .ok (.iload_n 3, 1) := by decide +kernel
theorem dX4_refusal_26 : decode cX4_refusal 26 = .ok (.iconst 1, 1) := by decide +kernel
theorem dX4_refusal_27 : decode cX4_refusal 27 = .ok (.iconst 5, 1) := by decide +kernel
theorem dX4_refusal_28 : decode cX4_refusal 28 = .ok (.invokestatic 24, 3) := by decide +kernel
theorem dX4_refusal_31 : decode cX4_refusal 31 = .ok (.ifCond .eq 18, 3) := by decide +kernel
theorem dX4_refusal_34 : decode cX4_refusal 34 = .ok (.iload 4, 2) := by decide +kernel
theorem dX4_refusal_36 : decode cX4_refusal 36 = .ok (.iconst 1, 1) := by decide +kernel
theorem dX4_refusal_37 : decode cX4_refusal 37 = .ok (.bipush 60, 2) := by decide +kernel
theorem dX4_refusal_39 : decode cX4_refusal 39 = .ok (.invokestatic 24, 3) := by decide +kernel
theorem dX4_refusal_42 : decode cX4_refusal 42 = .ok (.ifCond .eq 7, 3) := by decide +kernel
theorem dX4_refusal_45 : decode cX4_refusal 45 = .ok (.iconst 0, 1) := by decide +kernel
theorem dX4_refusal_46 : decode cX4_refusal 46 = .ok (.goto 5, 3) := by decide +kernel
theorem dX4_refusal_49 : decode cX4_refusal 49 = .ok (.bipush (-2), 2) := by decide +kernel
theorem dX4_refusal_51 : decode cX4_refusal 51 = .ok (.ireturn, 1) := by decide +kernel
set_option maxRecDepth 20000 in
theorem ggX4_tell_X4_refusal : GoodIn wsX4_tell wsX4_refusal := goodIn_r _ [10, 11, 12, 9, 13, 14, 15, 16, 17, 18, 19] (by decide +kernel) (by decide +kernel)
set_option maxRecDepth 20000 in
theorem gX4_tell_X4_refusal : GoodIn wsX4_tell (va_wsS RX4 102 yX4_refusal wsX4_refusal) := goodIn_app (goodIn_of _ (by decide +kernel)) ggX4_tell_X4_refusal
set_option maxRecDepth 20000 in
theorem ggX4_tell_X4_comes : GoodIn wsX4_tell wsX4_comes := goodIn_r _ [23, 1, 89, 90, 91, 92, 93, 94, 95, 96] (by decide +kernel) (by decide +kernel)
set_option maxRecDepth 20000 in
theorem gX4_tell_X4_comes : GoodIn wsX4_tell (wsV RX4 106 RX4 yX4_comes wsX4_comes) := goodIn_app (goodIn_of _ (by decide +kernel)) ggX4_tell_X4_comes
set_option maxRecDepth 20000 in
theorem ggX4_tell_X4_place : GoodIn wsX4_tell wsX4_place := goodIn_r _ [27, 1, 28, 29, 30, 9, 31, 32, 33, 34, 35, 36, 37, 38, 39, 40, 41, 42, 43, 44, 45, 46, 47, 48, 49, 50, 51, 52, 53, 54, 55, 56, 57, 58, 59, 60, 61, 62, 63, 64, 65, 66, 67, 68, 2, 3, 4, 5, 6, 69, 70, 71, 72, 73, 74, 75, 76, 77, 78, 79, 80, 81, 82, 83, 84, 85, 86, 87, 88, 89, 90, 91, 92, 93, 94, 95, 96] (by decide +kernel) (by decide +kernel)
set_option maxRecDepth 20000 in
theorem gX4_tell_X4_place : GoodIn wsX4_tell (wsV RX4 109 RX4 yX4_place wsX4_place) := goodIn_app (goodIn_of _ (by decide +kernel)) ggX4_tell_X4_place
set_option maxRecDepth 20000 in
theorem ggX4_tell_X4_at : GoodIn wsX4_tell wsX4_at := goodIn_r _ [53] (by decide +kernel) (by decide +kernel)
set_option maxRecDepth 20000 in
theorem gX4_tell_X4_at : GoodIn wsX4_tell (va_wsS RX4 20 yX4_at wsX4_at) := goodIn_app (goodIn_of _ (by decide +kernel)) ggX4_tell_X4_at
theorem dX4_tell_0 : decode cX4_tell 0 = .ok (.iload_n 1, 1) := by decide +kernel
theorem dX4_tell_1 : decode cX4_tell 1 = .ok (.iload_n 2, 1) := by decide +kernel
theorem dX4_tell_2 : decode cX4_tell 2 = .ok (.iload_n 3, 1) := by decide +kernel
theorem dX4_tell_3 : decode cX4_tell 3 = .ok (.iload 4, 2) := by decide +kernel
theorem dX4_tell_5 : decode cX4_tell 5 = .ok (.iload 5, 2) := by decide +kernel
theorem dX4_tell_7 : decode cX4_tell 7 = .ok (.invokestatic 102, 3) := by decide +kernel
theorem dX4_tell_10 : decode cX4_tell 10 = .ok (.istore 6, 2) := by decide +kernel
theorem dX4_tell_12 : decode cX4_tell 12 = .ok (.iload 6, 2) := by decide +kernel
theorem dX4_tell_14 : decode cX4_tell 14 = .ok (.ifCond .eq 6, 3) := by decide +kernel
theorem dX4_tell_17 : decode cX4_tell 17 = .ok (.iload 6, 2) := by decide +kernel
theorem dX4_tell_19 : decode cX4_tell 19 = .ok (.ireturn, 1) := by decide +kernel
theorem dX4_tell_20 : decode cX4_tell 20 = .ok (.aload_n 0, 1) := by decide +kernel
theorem dX4_tell_21 : decode cX4_tell 21 = .ok (.getfield 7, 3) := by decide +kernel
theorem dX4_tell_24 : decode cX4_tell 24 = .ok (.bipush 10, 2) := by decide +kernel
theorem dX4_tell_26 : decode cX4_tell 26 = .ok (.iaload, 1) := by decide +kernel
theorem dX4_tell_27 : decode cX4_tell 27 = .ok (.bipush 48, 2) := by decide +kernel
theorem dX4_tell_29 : decode cX4_tell 29 = .ok (.if_icmp .ne 6, 3) := by decide +kernel
theorem dX4_tell_32 : decode cX4_tell 32 = .ok (.bipush (-4), 2) := by decide +kernel
theorem dX4_tell_34 : decode cX4_tell 34 = .ok (.ireturn, 1) := by decide +kernel
theorem dX4_tell_35 : decode cX4_tell 35 = .ok (.aload_n 0, 1) := by decide +kernel
theorem dX4_tell_36 : decode cX4_tell 36 = .ok (.iload_n 1, 1) := by decide +kernel
theorem dX4_tell_37 : decode cX4_tell 37 = .ok (.iload_n 2, 1) := by decide +kernel
theorem dX4_tell_38 : decode cX4_tell 38 = .ok (.aload_n 0, 1) := by decide +kernel
theorem dX4_tell_39 : decode cX4_tell 39 = .ok (.iload_n 3, 1) := by decide +kernel
theorem dX4_tell_40 : decode cX4_tell 40 = .ok (.iload 4, 2) := by decide +kernel
theorem dX4_tell_42 : decode cX4_tell 42 = .ok (.invokevirtual 106, 3) := by decide +kernel
theorem dX4_tell_45 : decode cX4_tell 45 = .ok (.iload 5, 2) := by decide +kernel
theorem dX4_tell_47 : decode cX4_tell 47 = .ok (.invokevirtual 109, 3) := by decide +kernel
theorem dX4_tell_50 : decode cX4_tell 50 = .ok (.aload_n 0, 1) := by decide +kernel
theorem dX4_tell_51 : decode cX4_tell 51 = .ok (.getfield 7, 3) := by decide +kernel
theorem dX4_tell_54 : decode cX4_tell 54 = .ok (.bipush 10, 2) := by decide +kernel
theorem dX4_tell_56 : decode cX4_tell 56 = .ok (.iaload, 1) := by decide +kernel
theorem dX4_tell_57 : decode cX4_tell 57 = .ok (.istore 7, 2) := by decide +kernel
theorem dX4_tell_59 : decode cX4_tell 59 = .ok (.aload_n 0, 1) := by decide +kernel
theorem dX4_tell_60 : decode cX4_tell 60 = .ok (.getfield 7, 3) := by decide +kernel
theorem dX4_tell_63 : decode cX4_tell 63 = .ok (.iload 7, 2) := by decide +kernel
theorem dX4_tell_65 : decode cX4_tell 65 = .ok (.iconst 0, 1) := by decide +kernel
theorem dX4_tell_66 : decode cX4_tell 66 = .ok (.invokestatic 20, 3) := by decide +kernel
theorem dX4_tell_69 : decode cX4_tell 69 = .ok (.iload_n 1, 1) := by decide +kernel
theorem dX4_tell_70 : decode cX4_tell 70 = .ok (.iastore, 1) := by decide +kernel
theorem dX4_tell_71 : decode cX4_tell 71 = .ok (.aload_n 0, 1) := by decide +kernel
theorem dX4_tell_72 : decode cX4_tell 72 = .ok (.getfield 7, 3) := by decide +kernel
theorem dX4_tell_75 : decode cX4_tell 75 = .ok (.iload 7, 2) := by decide +kernel
theorem dX4_tell_77 : decode cX4_tell 77 = .ok (.iconst 1, 1) := by decide +kernel
theorem dX4_tell_78 : decode cX4_tell 78 = .ok (.invokestatic 20, 3) := by decide +kernel
theorem dX4_tell_81 : decode cX4_tell 81 = .ok (.iload_n 2, 1) := by decide +kernel
theorem dX4_tell_82 : decode cX4_tell 82 = .ok (.iastore, 1) := by decide +kernel
theorem dX4_tell_83 : decode cX4_tell 83 = .ok (.aload_n 0, 1) := by decide +kernel
theorem dX4_tell_84 : decode cX4_tell 84 = .ok (.getfield 7, 3) := by decide +kernel
theorem dX4_tell_87 : decode cX4_tell 87 = .ok (.iload 7, 2) := by decide +kernel
theorem dX4_tell_89 : decode cX4_tell 89 = .ok (.iconst 2, 1) := by decide +kernel
theorem dX4_tell_90 : decode cX4_tell 90 = .ok (.invokestatic 20, 3) := by decide +kernel
theorem dX4_tell_93 : decode cX4_tell 93 = .ok (.iload_n 3, 1) := by decide +kernel
theorem dX4_tell_94 : decode cX4_tell 94 = .ok (.iastore, 1) := by decide +kernel
theorem dX4_tell_95 : decode cX4_tell 95 = .ok (.aload_n 0, 1) := by decide +kernel
theorem dX4_tell_96 : decode cX4_tell 96 = .ok (.getfield 7, 3) := by decide +kernel
theorem dX4_tell_99 : decode cX4_tell 99 = .ok (.iload 7, 2) := by decide +kernel
theorem dX4_tell_101 : decode cX4_tell 101 = .ok (.iconst 3, 1) := by decide +kernel
theorem dX4_tell_102 : decode cX4_tell 102 = .ok (.invokestatic 20, 3) := by decide +kernel
theorem dX4_tell_105 : decode cX4_tell 105 = .ok (.iload 4, 2) := by decide +kernel
theorem dX4_tell_107 : decode cX4_tell 107 = .ok (.iastore, 1) := by decide +kernel
theorem dX4_tell_108 : decode cX4_tell 108 = .ok (.aload_n 0, 1) := by decide +kernel
theorem dX4_tell_109 : decode cX4_tell 109 = .ok (.getfield 7, 3) := by decide +kernel
theorem dX4_tell_112 : decode cX4_tell 112 = .ok (.iload 7, 2) := by decide +kernel
theorem dX4_tell_114 : decode cX4_tell 114 = .ok (.iconst 4, 1) := by decide +kernel
theorem dX4_tell_115 : decode cX4_tell 115 = .ok (.invokestatic 20, 3) := by decide +kernel
theorem dX4_tell_118 : decode cX4_tell 118 = .ok (.iload 5, 2) := by decide +kernel
theorem dX4_tell_120 : decode cX4_tell 120 = .ok (.iastore, 1) := by decide +kernel
theorem dX4_tell_121 : decode cX4_tell 121 = .ok (.aload_n 0, 1) := by decide +kernel
theorem dX4_tell_122 : decode cX4_tell 122 = .ok (.getfield 7, 3) := by decide +kernel
theorem dX4_tell_125 : decode cX4_tell 125 = .ok (.iload 7, 2) := by decide +kernel
theorem dX4_tell_127 : decode cX4_tell 127 = .ok (.iconst 5, 1) := by decide +kernel
theorem dX4_tell_128 : decode cX4_tell 128 = .ok (.invokestatic 20, 3) := by decide +kernel
theorem dX4_tell_131 : decode cX4_tell 131 = .ok (.aload_n 0, 1) := by decide +kernel
theorem dX4_tell_132 : decode cX4_tell 132 = .ok (.iload_n 3, 1) := by decide +kernel
theorem dX4_tell_133 : decode cX4_tell 133 = .ok (.iload 4, 2) := by decide +kernel
theorem dX4_tell_135 : decode cX4_tell 135 = .ok (.invokevirtual 106, 3) := by decide +kernel
theorem dX4_tell_138 : decode cX4_tell 138 = .ok (.iastore, 1) := by decide +kernel
theorem dX4_tell_139 : decode cX4_tell 139 = .ok (.aload_n 0, 1) := by decide +kernel
theorem dX4_tell_140 : decode cX4_tell 140 = .ok (.getfield 7, 3) := by decide +kernel
theorem dX4_tell_143 : decode cX4_tell 143 = .ok (.iload 7, 2) := by decide +kernel
theorem dX4_tell_145 : decode cX4_tell 145 = .ok (.bipush 6, 2) := by decide +kernel
theorem dX4_tell_147 : decode cX4_tell 147 = .ok (.invokestatic 20, 3) := by decide +kernel
theorem dX4_tell_150 : decode cX4_tell 150 = .ok (.aload_n 0, 1) := by decide +kernel
theorem dX4_tell_151 : decode cX4_tell 151 = .ok (.getfield 58, 3) := by decide +kernel
theorem dX4_tell_154 : decode cX4_tell 154 = .ok (.iastore, 1) := by decide +kernel
theorem dX4_tell_155 : decode cX4_tell 155 = .ok (.aload_n 0, 1) := by decide +kernel
theorem dX4_tell_156 : decode cX4_tell 156 = .ok (.getfield 7, 3) := by decide +kernel
theorem dX4_tell_159 : decode cX4_tell 159 = .ok (.iload 7, 2) := by decide +kernel
theorem dX4_tell_161 : decode cX4_tell 161 = .ok (.bipush 7, 2) := by decide +kernel
theorem dX4_tell_163 : decode cX4_tell 163 = .ok (.invokestatic 20, 3) := by decide +kernel
theorem dX4_tell_166 : decode cX4_tell 166 = .ok (.aload_n 0, 1) := by decide +kernel
theorem dX4_tell_167 : decode cX4_tell 167 = .ok (.getfield 62, 3) := by decide +kernel
theorem dX4_tell_170 : decode cX4_tell 170 = .ok (.iastore, 1) := by decide +kernel
theorem dX4_tell_171 : decode cX4_tell 171 = .ok (.aload_n 0, 1) := by decide +kernel
theorem dX4_tell_172 : decode cX4_tell 172 = .ok (.getfield 7, 3) := by decide +kernel
theorem dX4_tell_175 : decode cX4_tell 175 = .ok (.iload 7, 2) := by decide +kernel
theorem dX4_tell_177 : decode cX4_tell 177 = .ok (.bipush 8, 2) := by decide +kernel
end
section
theorem dX4_tell_179 : decode cX4_tell 179 = .ok (.invokestatic 20, 3) := by decide +kernel
theorem dX4_tell_182 : decode cX4_tell 182 = .ok (.aload_n 0, 1) := by decide +kernel
theorem dX4_tell_183 : decode cX4_tell 183 = .ok (.getfield 65, 3) := by decide +kernel
theorem dX4_tell_186 : decode cX4_tell 186 = .ok (.iastore, 1) := by decide +kernel
theorem dX4_tell_187 : decode cX4_tell 187 = .ok (.aload_n 0, 1) := by decide +kernel
theorem dX4_tell_188 : decode cX4_tell 188 = .ok (.getfield 7, 3) := by decide +kernel
theorem dX4_tell_191 : decode cX4_tell 191 = .ok (.iload 7, 2) := by decide +kernel
theorem dX4_tell_193 : decode cX4_tell 193 = .ok (.bipush 9, 2) := by decide +kernel
theorem dX4_tell_195 : decode cX4_tell 195 = .ok (.invokestatic 20, 3) := by decide +kernel
theorem dX4_tell_198 : decode cX4_tell 198 = .ok (.aload_n 0, 1) := by decide +kernel
theorem dX4_tell_199 : decode cX4_tell 199 = .ok (.getfield 68, 3) := by decide +kernel
theorem dX4_tell_202 : decode cX4_tell 202 = .ok (.iastore, 1) := by decide +kernel
theorem dX4_tell_203 : decode cX4_tell 203 = .ok (.aload_n 0, 1) := by decide +kernel
theorem dX4_tell_204 : decode cX4_tell 204 = .ok (.getfield 7, 3) := by decide +kernel
theorem dX4_tell_207 : decode cX4_tell 207 = .ok (.iload 7, 2) := by decide +kernel
theorem dX4_tell_209 : decode cX4_tell 209 = .ok (.bipush 10, 2) := by decide +kernel
theorem dX4_tell_211 : decode cX4_tell 211 = .ok (.invokestatic 20, 3) := by decide +kernel
theorem dX4_tell_214 : decode cX4_tell 214 = .ok (.aload_n 0, 1) := by decide +kernel
theorem dX4_tell_215 : decode cX4_tell 215 = .ok (.getfield 71, 3) := by decide +kernel
theorem dX4_tell_218 : decode cX4_tell 218 = .ok (.iastore, 1) := by decide +kernel
theorem dX4_tell_219 : decode cX4_tell 219 = .ok (.aload_n 0, 1) := by decide +kernel
theorem dX4_tell_220 : decode cX4_tell 220 = .ok (.getfield 7, 3) := by decide +kernel
theorem dX4_tell_223 : decode cX4_tell 223 = .ok (.bipush 10, 2) := by decide +kernel
theorem dX4_tell_225 : decode cX4_tell 225 = .ok (.dup2, 1) := by decide +kernel
theorem dX4_tell_226 : decode cX4_tell 226 = .ok (.iaload, 1) := by decide +kernel
theorem dX4_tell_227 : decode cX4_tell 227 = .ok (.iconst 1, 1) := by decide +kernel
theorem dX4_tell_228 : decode cX4_tell 228 = .ok (.iadd, 1) := by decide +kernel
theorem dX4_tell_229 : decode cX4_tell 229 = .ok (.iastore, 1) := by decide +kernel
theorem dX4_tell_230 : decode cX4_tell 230 = .ok (.iload 7, 2) := by decide +kernel
theorem dX4_tell_232 : decode cX4_tell 232 = .ok (.ireturn, 1) := by decide +kernel
set_option maxRecDepth 20000 in
theorem ggX4_would_X4_refusal : GoodIn wsX4_would wsX4_refusal := goodIn_r _ [5, 6, 7, 4, 8, 9, 10, 11, 12, 13, 14] (by decide +kernel) (by decide +kernel)
set_option maxRecDepth 20000 in
theorem gX4_would_X4_refusal : GoodIn wsX4_would (va_wsS RX4 102 yX4_refusal wsX4_refusal) := goodIn_app (goodIn_of _ (by decide +kernel)) ggX4_would_X4_refusal
set_option maxRecDepth 20000 in
theorem ggX4_would_X4_comes : GoodIn wsX4_would wsX4_comes := goodIn_r _ [18, 19, 89, 90, 91, 92, 93, 94, 95, 96] (by decide +kernel) (by decide +kernel)
set_option maxRecDepth 20000 in
theorem gX4_would_X4_comes : GoodIn wsX4_would (wsV RX4 106 RX4 yX4_comes wsX4_comes) := goodIn_app (goodIn_of _ (by decide +kernel)) ggX4_would_X4_comes
set_option maxRecDepth 20000 in
theorem ggX4_would_X4_place : GoodIn wsX4_would wsX4_place := goodIn_r _ [23, 19, 24, 25, 26, 4, 27, 28, 29, 30, 31, 32, 33, 34, 35, 36, 37, 38, 39, 40, 41, 42, 43, 44, 45, 46, 47, 48, 49, 50, 51, 52, 53, 54, 55, 56, 57, 58, 59, 60, 61, 62, 63, 64, 1, 65, 66, 67, 68, 69, 70, 71, 72, 73, 74, 75, 76, 77, 78, 79, 80, 81, 82, 83, 84, 85, 86, 87, 88, 89, 90, 91, 92, 93, 94, 95, 96] (by decide +kernel) (by decide +kernel)
set_option maxRecDepth 20000 in
theorem gX4_would_X4_place : GoodIn wsX4_would (wsV RX4 109 RX4 yX4_place wsX4_place) := goodIn_app (goodIn_of _ (by decide +kernel)) ggX4_would_X4_place
theorem dX4_would_0 : decode cX4_would 0 = .ok (.iload_n 1, 1) := by decide +kernel
theorem dX4_would_1 : decode cX4_would 1 = .ok (.iload_n 2, 1) := by decide +kernel
theorem dX4_would_2 : decode cX4_would 2 = .ok (.iload_n 3, 1) := by decide +kernel
theorem dX4_would_3 : decode cX4_would 3 = .ok (.iload 4, 2) := by decide +kernel
theorem dX4_would_5 : decode cX4_would 5 = .ok (.iload 5, 2) := by decide +kernel
theorem dX4_would_7 : decode cX4_would 7 = .ok (.invokestatic 102, 3) := by decide +kernel
theorem dX4_would_10 : decode cX4_would 10 = .ok (.istore 6, 2) := by decide +kernel
theorem dX4_would_12 : decode cX4_would 12 = .ok (.iload 6, 2) := by decide +kernel
theorem dX4_would_14 : decode cX4_would 14 = .ok (.ifCond .eq 6, 3) := by decide +kernel
theorem dX4_would_17 : decode cX4_would 17 = .ok (.iload 6, 2) := by decide +kernel
theorem dX4_would_19 : decode cX4_would 19 = .ok (.ireturn, 1) := by decide +kernel
theorem dX4_would_20 : decode cX4_would 20 = .ok (.aload_n 0, 1) := by decide +kernel
theorem dX4_would_21 : decode cX4_would 21 = .ok (.iload_n 1, 1) := by decide +kernel
theorem dX4_would_22 : decode cX4_would 22 = .ok (.iload_n 2, 1) := by decide +kernel
theorem dX4_would_23 : decode cX4_would 23 = .ok (.aload_n 0, 1) := by decide +kernel
theorem dX4_would_24 : decode cX4_would 24 = .ok (.iload_n 3, 1) := by decide +kernel
theorem dX4_would_25 : decode cX4_would 25 = .ok (.iload 4, 2) := by decide +kernel
theorem dX4_would_27 : decode cX4_would 27 = .ok (.invokevirtual 106, 3) := by decide +kernel
theorem dX4_would_30 : decode cX4_would 30 = .ok (.iload 5, 2) := by decide +kernel
theorem dX4_would_32 : decode cX4_would 32 = .ok (.invokevirtual 109, 3) := by decide +kernel
theorem dX4_would_35 : decode cX4_would 35 = .ok (.aload_n 0, 1) := by decide +kernel
theorem dX4_would_36 : decode cX4_would 36 = .ok (.getfield 58, 3) := by decide +kernel
theorem dX4_would_39 : decode cX4_would 39 = .ok (.ireturn, 1) := by decide +kernel
set_option maxRecDepth 20000 in
theorem ggX4_back_X4_isBurst : GoodIn wsX4_back wsX4_isBurst := goodIn_r _ [6, 1, 7, 8, 5, 9, 17, 18, 19, 20, 21, 22, 23, 24] (by decide +kernel) (by decide +kernel)
set_option maxRecDepth 20000 in
theorem gX4_back_X4_isBurst : GoodIn wsX4_back (wsV RX4 112 RX4 yX4_isBurst wsX4_isBurst) := goodIn_app (goodIn_of _ (by decide +kernel)) ggX4_back_X4_isBurst
set_option maxRecDepth 20000 in
theorem ggX4_back_X4_of : GoodIn wsX4_back wsX4_of := goodIn_r _ [13, 1, 14, 15, 5, 16, 17, 18, 19, 20, 21, 22, 23, 24] (by decide +kernel) (by decide +kernel)
set_option maxRecDepth 20000 in
theorem gX4_back_X4_of : GoodIn wsX4_back (wsV RX4 28 RX4 yX4_of wsX4_of) := goodIn_app (goodIn_of _ (by decide +kernel)) ggX4_back_X4_of
set_option maxRecDepth 20000 in
theorem ggX4_back_X4_at : GoodIn wsX4_back wsX4_at := goodIn_r _ [16] (by decide +kernel) (by decide +kernel)
set_option maxRecDepth 20000 in
theorem gX4_back_X4_at : GoodIn wsX4_back (va_wsS RX4 20 yX4_at wsX4_at) := goodIn_app (goodIn_of _ (by decide +kernel)) ggX4_back_X4_at
theorem dX4_back_0 : decode cX4_back 0 = .ok (.aload_n 0, 1) := by decide +kernel
theorem dX4_back_1 : decode cX4_back 1 = .ok (.iload_n 1, 1) := by decide +kernel
theorem dX4_back_2 : decode cX4_back 2 = .ok (.invokevirtual 112, 3) := by decide +kernel
theorem dX4_back_5 : decode cX4_back 5 = .ok (.ifCond .ne 5, 3) := by decide +kernel
theorem dX4_back_8 : decode cX4_back 8 = .ok (.iconst (-1), 1) := by decide +kernel
theorem dX4_back_9 : decode cX4_back 9 = .ok (.ireturn, 1) := by decide +kernel
theorem dX4_back_10 : decode cX4_back 10 = .ok (.aload_n 0, 1) := by decide +kernel
theorem dX4_back_11 : decode cX4_back 11 = .ok (.iload_n 1, 1) := by decide +kernel
theorem dX4_back_12 : decode cX4_back 12 = .ok (.iconst 5, 1) := by decide +kernel
theorem dX4_back_13 : decode cX4_back 13 = .ok (.invokevirtual 28, 3) := by decide +kernel
theorem dX4_back_16 : decode cX4_back 16 = .ok (.aload_n 0, 1) := by decide +kernel
theorem dX4_back_17 : decode cX4_back 17 = .ok (.getfield 7, 3) := by decide +kernel
theorem dX4_back_20 : decode cX4_back 20 = .ok (.bipush 9, 2) := by decide +kernel
theorem dX4_back_22 : decode cX4_back 22 = .ok (.iaload, 1) := by decide +kernel
theorem dX4_back_23 : decode cX4_back 23 = .ok (.if_icmp .gt 6, 3) := by decide +kernel
theorem dX4_back_26 : decode cX4_back 26 = .ok (.bipush (-3), 2) := by decide +kernel
theorem dX4_back_28 : decode cX4_back 28 = .ok (.ireturn, 1) := by decide +kernel
theorem dX4_back_29 : decode cX4_back 29 = .ok (.aload_n 0, 1) := by decide +kernel
theorem dX4_back_30 : decode cX4_back 30 = .ok (.iload_n 1, 1) := by decide +kernel
theorem dX4_back_31 : decode cX4_back 31 = .ok (.bipush 6, 2) := by decide +kernel
theorem dX4_back_33 : decode cX4_back 33 = .ok (.invokevirtual 28, 3) := by decide +kernel
theorem dX4_back_36 : decode cX4_back 36 = .ok (.iconst 4, 1) := by decide +kernel
theorem dX4_back_37 : decode cX4_back 37 = .ok (.if_icmp .ne 6, 3) := by decide +kernel
theorem dX4_back_40 : decode cX4_back 40 = .ok (.bipush (-5), 2) := by decide +kernel
theorem dX4_back_42 : decode cX4_back 42 = .ok (.ireturn, 1) := by decide +kernel
theorem dX4_back_43 : decode cX4_back 43 = .ok (.aload_n 0, 1) := by decide +kernel
theorem dX4_back_44 : decode cX4_back 44 = .ok (.iload_n 1, 1) := by decide +kernel
theorem dX4_back_45 : decode cX4_back 45 = .ok (.bipush 9, 2) := by decide +kernel
theorem dX4_back_47 : decode cX4_back 47 = .ok (.invokevirtual 28, 3) := by decide +kernel
theorem dX4_back_50 : decode cX4_back 50 = .ok (.istore_n 2, 1) := by decide +kernel
theorem dX4_back_51 : decode cX4_back 51 = .ok (.aload_n 0, 1) := by decide +kernel
theorem dX4_back_52 : decode cX4_back 52 = .ok (.getfield 7, 3) := by decide +kernel
theorem dX4_back_55 : decode cX4_back 55 = .ok (.iload_n 1, 1) := by decide +kernel
theorem dX4_back_56 : decode cX4_back 56 = .ok (.bipush 6, 2) := by decide +kernel
theorem dX4_back_58 : decode cX4_back 58 = .ok (.invokestatic 20, 3) := by decide +kernel
theorem dX4_back_61 : decode cX4_back 61 = .ok (.iconst 4, 1) := by decide +kernel
theorem dX4_back_62 : decode cX4_back 62 = .ok (.iastore, 1) := by decide +kernel
theorem dX4_back_63 : decode cX4_back 63 = .ok (.aload_n 0, 1) := by decide +kernel
theorem dX4_back_64 : decode cX4_back 64 = .ok (.getfield 7, 3) := by decide +kernel
theorem dX4_back_67 : decode cX4_back 67 = .ok (.iload_n 1, 1) := by decide +kernel
theorem dX4_back_68 : decode cX4_back 68 = .ok (.bipush 7, 2) := by decide +kernel
theorem dX4_back_70 : decode cX4_back 70 = .ok (.invokestatic 20, 3) := by decide +kernel
theorem dX4_back_73 : decode cX4_back 73 = .ok (.bipush (-6), 2) := by decide +kernel
theorem dX4_back_75 : decode cX4_back 75 = .ok (.iastore, 1) := by decide +kernel
theorem dX4_back_76 : decode cX4_back 76 = .ok (.aload_n 0, 1) := by decide +kernel
theorem dX4_back_77 : decode cX4_back 77 = .ok (.getfield 7, 3) := by decide +kernel
theorem dX4_back_80 : decode cX4_back 80 = .ok (.iload_n 1, 1) := by decide +kernel
theorem dX4_back_81 : decode cX4_back 81 = .ok (.bipush 8, 2) := by decide +kernel
theorem dX4_back_83 : decode cX4_back 83 = .ok (.invokestatic 20, 3) := by decide +kernel
theorem dX4_back_86 : decode cX4_back 86 = .ok (.bipush (-6), 2) := by decide +kernel
theorem dX4_back_88 : decode cX4_back 88 = .ok (.iastore, 1) := by decide +kernel
theorem dX4_back_89 : decode cX4_back 89 = .ok (.aload_n 0, 1) := by decide +kernel
theorem dX4_back_90 : decode cX4_back 90 = .ok (.getfield 7, 3) := by decide +kernel
theorem dX4_back_93 : decode cX4_back 93 = .ok (.iload_n 1, 1) := by decide +kernel
theorem dX4_back_94 : decode cX4_back 94 = .ok (.bipush 9, 2) := by decide +kernel
theorem dX4_back_96 : decode cX4_back 96 = .ok (.invokestatic 20, 3) := by decide +kernel
theorem dX4_back_99 : decode cX4_back 99 = .ok (.iconst 0, 1) := by decide +kernel
theorem dX4_back_100 : decode cX4_back 100 = .ok (.iastore, 1) := by decide +kernel
theorem dX4_back_101 : decode cX4_back 101 = .ok (.aload_n 0, 1) := by decide +kernel
theorem dX4_back_102 : decode cX4_back 102 = .ok (.getfield 7, 3) := by decide +kernel
theorem dX4_back_105 : decode cX4_back 105 = .ok (.iload_n 1, 1) := by decide +kernel
theorem dX4_back_106 : decode cX4_back 106 = .ok (.bipush 10, 2) := by decide +kernel
theorem dX4_back_108 : decode cX4_back 108 = .ok (.invokestatic 20, 3) := by decide +kernel
theorem dX4_back_111 : decode cX4_back 111 = .ok (.bipush (-6), 2) := by decide +kernel
theorem dX4_back_113 : decode cX4_back 113 = .ok (.iastore, 1) := by decide +kernel
theorem dX4_back_114 : decode cX4_back 114 = .ok (.iload_n 2, 1) := by decide +kernel
theorem dX4_back_115 : decode cX4_back 115 = .ok (.ireturn, 1) := by decide +kernel
set_option maxRecDepth 20000 in
theorem ggX4_burst_X4_isBurst : GoodIn wsX4_burst wsX4_isBurst := goodIn_r _ [5, 6, 7, 8, 4, 9, 17, 18, 19, 20, 21, 22, 23, 24] (by decide +kernel) (by decide +kernel)
set_option maxRecDepth 20000 in
theorem gX4_burst_X4_isBurst : GoodIn wsX4_burst (wsV RX4 112 RX4 yX4_isBurst wsX4_isBurst) := goodIn_app (goodIn_of _ (by decide +kernel)) ggX4_burst_X4_isBurst
set_option maxRecDepth 20000 in
theorem ggX4_burst_X4_in : GoodIn wsX4_burst wsX4_in := goodIn_r _ [9] (by decide +kernel) (by decide +kernel)
set_option maxRecDepth 20000 in
theorem gX4_burst_X4_in : GoodIn wsX4_burst (va_wsS RX4 24 yX4_in wsX4_in) := goodIn_app (goodIn_of _ (by decide +kernel)) ggX4_burst_X4_in
set_option maxRecDepth 20000 in
theorem ggX4_burst_X4_of : GoodIn wsX4_burst wsX4_of := goodIn_r _ [13, 6, 14, 15, 4, 16, 17, 18, 19, 20, 21, 22, 23, 24] (by decide +kernel) (by decide +kernel)
set_option maxRecDepth 20000 in
theorem gX4_burst_X4_of : GoodIn wsX4_burst (wsV RX4 28 RX4 yX4_of wsX4_of) := goodIn_app (goodIn_of _ (by decide +kernel)) ggX4_burst_X4_of
theorem dX4_burst_0 : decode cX4_burst 0 = .ok (.aload_n 0, 1) := by decide +kernel
theorem dX4_burst_1 : decode cX4_burst 1 = .ok (.iload_n 1, 1) := by decide +kernel
theorem dX4_burst_2 : decode cX4_burst 2 = .ok (.invokevirtual 112, 3) := by decide +kernel
theorem dX4_burst_5 : decode cX4_burst 5 = .ok (.ifCond .ne 5, 3) := by decide +kernel
theorem dX4_burst_8 : decode cX4_burst 8 = .ok (.iconst (-1), 1) := by decide +kernel
theorem dX4_burst_9 : decode cX4_burst 9 = .ok (.ireturn, 1) := by decide +kernel
theorem dX4_burst_10 : decode cX4_burst 10 = .ok (.iload_n 2, 1) := by decide +kernel
theorem dX4_burst_11 : decode cX4_burst 11 = .ok (.iconst 0, 1) := by decide +kernel
theorem dX4_burst_12 : decode cX4_burst 12 = .ok (.bipush 10, 2) := by decide +kernel
theorem dX4_burst_14 : decode cX4_burst 14 = .ok (.invokestatic 24, 3) := by decide +kernel
theorem dX4_burst_17 : decode cX4_burst 17 = .ok (.ifCond .eq 12, 3) := by decide +kernel
theorem dX4_burst_20 : decode cX4_burst 20 = .ok (.aload_n 0, 1) := by decide +kernel
theorem dX4_burst_21 : decode cX4_burst 21 = .ok (.iload_n 1, 1) := by decide +kernel
theorem dX4_burst_22 : decode cX4_burst 22 = .ok (.iload_n 2, 1) := by decide +kernel
theorem dX4_burst_23 : decode cX4_burst 23 = .ok (.invokevirtual 28, 3) := by decide +kernel
theorem dX4_burst_26 : decode cX4_burst 26 = .ok (.goto 5, 3) := by decide +kernel
theorem dX4_burst_29 : decode cX4_burst 29 = .ok (.bipush (-2), 2) := by decide +kernel
theorem dX4_burst_31 : decode cX4_burst 31 = .ok (.ireturn, 1) := by decide +kernel
set_option maxRecDepth 20000 in
theorem ggX4_bookingAt_X4_isOnLine : GoodIn wsX4_bookingAt wsX4_isOnLine := goodIn_r _ [6, 7, 8, 9, 5, 10, 1, 11, 12, 13, 22, 23, 24, 25, 26, 27, 28, 29] (by decide +kernel) (by decide +kernel)
set_option maxRecDepth 20000 in
theorem gX4_bookingAt_X4_isOnLine : GoodIn wsX4_bookingAt (wsV RX4 31 RX4 yX4_isOnLine wsX4_isOnLine) := goodIn_app (goodIn_of _ (by decide +kernel)) ggX4_bookingAt_X4_isOnLine
set_option maxRecDepth 20000 in
theorem ggX4_bookingAt_X4_isOn : GoodIn wsX4_bookingAt wsX4_isOn := goodIn_r _ [17, 7, 8, 9, 5, 10, 1, 11, 12, 13, 22, 23, 24, 25, 26, 27, 28, 29] (by decide +kernel) (by decide +kernel)
set_option maxRecDepth 20000 in
theorem gX4_bookingAt_X4_isOn : GoodIn wsX4_bookingAt (wsV RX4 35 RX4 yX4_isOn wsX4_isOn) := goodIn_app (goodIn_of _ (by decide +kernel)) ggX4_bookingAt_X4_isOn
set_option maxRecDepth 20000 in
theorem ggX4_bookingAt_X4_beginOf : GoodIn wsX4_bookingAt wsX4_beginOf := goodIn_r _ [21, 7, 8, 9, 5, 10, 1, 11, 12, 13, 22, 23, 24, 25, 26, 27, 28, 29] (by decide +kernel) (by decide +kernel)
set_option maxRecDepth 20000 in
theorem gX4_bookingAt_X4_beginOf : GoodIn wsX4_bookingAt (wsV RX4 115 RX4 yX4_beginOf wsX4_beginOf) := goodIn_app (goodIn_of _ (by decide +kernel)) ggX4_bookingAt_X4_beginOf
theorem dX4_bookingAt_0 : decode cX4_bookingAt 0 = .ok (.bipush (-6), 2) := by decide +kernel
theorem dX4_bookingAt_2 : decode cX4_bookingAt 2 = .ok (.istore 4, 2) := by decide +kernel
theorem dX4_bookingAt_4 : decode cX4_bookingAt 4 = .ok (.iconst 0, 1) := by decide +kernel
theorem dX4_bookingAt_5 : decode cX4_bookingAt 5 = .ok (.istore 5, 2) := by decide +kernel
theorem dX4_bookingAt_7 : decode cX4_bookingAt 7 = .ok (.iload 5, 2) := by decide +kernel
theorem dX4_bookingAt_9 : decode cX4_bookingAt 9 = .ok (.iload_n 3, 1) := by decide +kernel
theorem dX4_bookingAt_10 : decode cX4_bookingAt 10 = .ok (.if_icmp .gt 123, 3) := by decide +kernel
theorem dX4_bookingAt_13 : decode cX4_bookingAt 13 = .ok (.bipush (-6), 2) := by decide +kernel
theorem dX4_bookingAt_15 : decode cX4_bookingAt 15 = .ok (.istore 6, 2) := by decide +kernel
theorem dX4_bookingAt_17 : decode cX4_bookingAt 17 = .ok (.iconst 0, 1) := by decide +kernel
theorem dX4_bookingAt_18 : decode cX4_bookingAt 18 = .ok (.istore 7, 2) := by decide +kernel
theorem dX4_bookingAt_20 : decode cX4_bookingAt 20 = .ok (.iload 7, 2) := by decide +kernel
theorem dX4_bookingAt_22 : decode cX4_bookingAt 22 = .ok (.aload_n 0, 1) := by decide +kernel
theorem dX4_bookingAt_23 : decode cX4_bookingAt 23 = .ok (.getfield 7, 3) := by decide +kernel
theorem dX4_bookingAt_26 : decode cX4_bookingAt 26 = .ok (.bipush 10, 2) := by decide +kernel
theorem dX4_bookingAt_28 : decode cX4_bookingAt 28 = .ok (.iaload, 1) := by decide +kernel
theorem dX4_bookingAt_29 : decode cX4_bookingAt 29 = .ok (.if_icmp .ge 86, 3) := by decide +kernel
theorem dX4_bookingAt_32 : decode cX4_bookingAt 32 = .ok (.iload_n 1, 1) := by decide +kernel
theorem dX4_bookingAt_33 : decode cX4_bookingAt 33 = .ok (.ifCond .ge 13, 3) := by decide +kernel
theorem dX4_bookingAt_36 : decode cX4_bookingAt 36 = .ok (.aload_n 0, 1) := by decide +kernel
theorem dX4_bookingAt_37 : decode cX4_bookingAt 37 = .ok (.iload 7, 2) := by decide +kernel
theorem dX4_bookingAt_39 : decode cX4_bookingAt 39 = .ok (.iload_n 2, 1) := by decide +kernel
theorem dX4_bookingAt_40 : decode cX4_bookingAt 40 = .ok (.invokevirtual 31, 3) := by decide +kernel
theorem dX4_bookingAt_43 : decode cX4_bookingAt 43 = .ok (.goto 11, 3) := by decide +kernel
theorem dX4_bookingAt_46 : decode cX4_bookingAt 46 = .ok (.aload_n 0, 1) := by decide +kernel
theorem dX4_bookingAt_47 : decode cX4_bookingAt 47 = .ok (.iload 7, 2) := by decide +kernel
theorem dX4_bookingAt_49 : decode cX4_bookingAt 49 = .ok (.iload_n 1, 1) := by decide +kernel
theorem dX4_bookingAt_50 : decode cX4_bookingAt 50 = .ok (.iload_n 2, 1) := by decide +kernel
theorem dX4_bookingAt_51 : decode cX4_bookingAt 51 = .ok (.invokevirtual 35, 3) := by decide +kernel
theorem dX4_bookingAt_54 : decode cX4_bookingAt 54 = .ok (.istore 8, 2) := by decide +kernel
theorem dX4_bookingAt_56 : decode cX4_bookingAt 56 = .ok (.iload 8, 2) := by decide +kernel
theorem dX4_bookingAt_58 : decode cX4_bookingAt 58 = .ok (.ifCond .eq 51, 3) := by decide +kernel
theorem dX4_bookingAt_61 : decode cX4_bookingAt 61 = .ok (.iload 4, 2) := by decide +kernel
theorem dX4_bookingAt_63 : decode cX4_bookingAt 63 = .ok (.ifCond .lt 20, 3) := by decide +kernel
theorem dX4_bookingAt_66 : decode cX4_bookingAt 66 = .ok (.aload_n 0, 1) := by decide +kernel
theorem dX4_bookingAt_67 : decode cX4_bookingAt 67 = .ok (.iload_n 1, 1) := by decide +kernel
theorem dX4_bookingAt_68 : decode cX4_bookingAt 68 = .ok (.iload 7, 2) := by decide +kernel
theorem dX4_bookingAt_70 : decode cX4_bookingAt 70 = .ok (.invokevirtual 115, 3) := by decide +kernel
theorem dX4_bookingAt_73 : decode cX4_bookingAt 73 = .ok (.aload_n 0, 1) := by decide +kernel
theorem dX4_bookingAt_74 : decode cX4_bookingAt 74 = .ok (.iload_n 1, 1) := by decide +kernel
theorem dX4_bookingAt_75 : decode cX4_bookingAt 75 = .ok (.iload 4, 2) := by decide +kernel
theorem dX4_bookingAt_77 : decode cX4_bookingAt 77 = .ok (.invokevirtual 115, 3) := by decide +kernel
theorem dX4_bookingAt_80 : decode cX4_bookingAt 80 = .ok (.if_icmp .le 29, 3) := by decide +kernel
theorem dX4_bookingAt_83 : decode cX4_bookingAt 83 = .ok (.iload 6, 2) := by decide +kernel
theorem dX4_bookingAt_85 : decode cX4_bookingAt 85 = .ok (.ifCond .lt 20, 3) := by decide +kernel
theorem dX4_bookingAt_88 : decode cX4_bookingAt 88 = .ok (.aload_n 0, 1) := by decide +kernel
theorem dX4_bookingAt_89 : decode cX4_bookingAt 89 = .ok (.iload_n 1, 1) := by decide +kernel
theorem dX4_bookingAt_90 : decode cX4_bookingAt 90 = .ok (.iload 7, 2) := by decide +kernel
theorem dX4_bookingAt_92 : decode cX4_bookingAt 92 = .ok (.invokevirtual 115, 3) := by decide +kernel
theorem dX4_bookingAt_95 : decode cX4_bookingAt 95 = .ok (.aload_n 0, 1) := by decide +kernel
theorem dX4_bookingAt_96 : decode cX4_bookingAt 96 = .ok (.iload_n 1, 1) := by decide +kernel
theorem dX4_bookingAt_97 : decode cX4_bookingAt 97 = .ok (.iload 6, 2) := by decide +kernel
theorem dX4_bookingAt_99 : decode cX4_bookingAt 99 = .ok (.invokevirtual 115, 3) := by decide +kernel
theorem dX4_bookingAt_102 : decode cX4_bookingAt 102 = .ok (.if_icmp .ge 7, 3) := by decide +kernel
theorem dX4_bookingAt_105 : decode cX4_bookingAt 105 = .ok (.iload 7, 2) := by decide +kernel
theorem dX4_bookingAt_107 : decode cX4_bookingAt 107 = .ok (.istore 6, 2) := by decide +kernel
theorem dX4_bookingAt_109 : decode cX4_bookingAt 109 = .ok (.iinc 7 1, 3) := by decide +kernel
theorem dX4_bookingAt_112 : decode cX4_bookingAt 112 = .ok (.goto (-92), 3) := by decide +kernel
theorem dX4_bookingAt_115 : decode cX4_bookingAt 115 = .ok (.iload 6, 2) := by decide +kernel
theorem dX4_bookingAt_117 : decode cX4_bookingAt 117 = .ok (.ifCond .ge 6, 3) := by decide +kernel
theorem dX4_bookingAt_120 : decode cX4_bookingAt 120 = .ok (.bipush (-6), 2) := by decide +kernel
theorem dX4_bookingAt_122 : decode cX4_bookingAt 122 = .ok (.ireturn, 1) := by decide +kernel
theorem dX4_bookingAt_123 : decode cX4_bookingAt 123 = .ok (.iload 6, 2) := by decide +kernel
theorem dX4_bookingAt_125 : decode cX4_bookingAt 125 = .ok (.istore 4, 2) := by decide +kernel
theorem dX4_bookingAt_127 : decode cX4_bookingAt 127 = .ok (.iinc 5 1, 3) := by decide +kernel
theorem dX4_bookingAt_130 : decode cX4_bookingAt 130 = .ok (.goto (-123), 3) := by decide +kernel
theorem dX4_bookingAt_133 : decode cX4_bookingAt 133 = .ok (.iload 4, 2) := by decide +kernel
theorem dX4_bookingAt_135 : decode cX4_bookingAt 135 = .ok (.ireturn, 1) := by decide +kernel
set_option maxRecDepth 20000 in
theorem ggX4_beginOf_X4_of : GoodIn wsX4_beginOf wsX4_of := goodIn_r _ [5, 6, 7, 8, 4, 9, 10, 11, 12, 13, 14, 15, 16, 17] (by decide +kernel) (by decide +kernel)
set_option maxRecDepth 20000 in
theorem gX4_beginOf_X4_of : GoodIn wsX4_beginOf (wsV RX4 28 RX4 yX4_of wsX4_of) := goodIn_app (goodIn_of _ (by decide +kernel)) ggX4_beginOf_X4_of
theorem dX4_beginOf_0 : decode cX4_beginOf 0 = .ok (.iload_n 1, 1) := by decide +kernel
theorem dX4_beginOf_1 : decode cX4_beginOf 1 = .ok (.ifCond .ge 12, 3) := by decide +kernel
theorem dX4_beginOf_4 : decode cX4_beginOf 4 = .ok (.aload_n 0, 1) := by decide +kernel
theorem dX4_beginOf_5 : decode cX4_beginOf 5 = .ok (.iload_n 2, 1) := by decide +kernel
theorem dX4_beginOf_6 : decode cX4_beginOf 6 = .ok (.iconst 5, 1) := by decide +kernel
theorem dX4_beginOf_7 : decode cX4_beginOf 7 = .ok (.invokevirtual 28, 3) := by decide +kernel
theorem dX4_beginOf_10 : decode cX4_beginOf 10 = .ok (.goto 10, 3) := by decide +kernel
theorem dX4_beginOf_13 : decode cX4_beginOf 13 = .ok (.aload_n 0, 1) := by decide +kernel
theorem dX4_beginOf_14 : decode cX4_beginOf 14 = .ok (.iload_n 2, 1) := by decide +kernel
theorem dX4_beginOf_15 : decode cX4_beginOf 15 = .ok (.bipush 8, 2) := by decide +kernel
theorem dX4_beginOf_17 : decode cX4_beginOf 17 = .ok (.invokevirtual 28, 3) := by decide +kernel
theorem dX4_beginOf_20 : decode cX4_beginOf 20 = .ok (.ireturn, 1) := by decide +kernel
set_option maxRecDepth 20000 in
theorem ggX4_booking_X4_isOut : GoodIn wsX4_booking wsX4_isOut := goodIn_r _ [4, 5, 6, 3, 7] (by decide +kernel) (by decide +kernel)
set_option maxRecDepth 20000 in
theorem gX4_booking_X4_isOut : GoodIn wsX4_booking (va_wsS RX4 95 yX4_isOut wsX4_isOut) := goodIn_app (goodIn_of _ (by decide +kernel)) ggX4_booking_X4_isOut
set_option maxRecDepth 20000 in
theorem ggX4_booking_X4_isColour : GoodIn wsX4_booking wsX4_isColour := goodIn_r _ [10, 5, 6, 3, 7] (by decide +kernel) (by decide +kernel)
set_option maxRecDepth 20000 in
theorem gX4_booking_X4_isColour : GoodIn wsX4_booking (va_wsS RX4 99 yX4_isColour wsX4_isColour) := goodIn_app (goodIn_of _ (by decide +kernel)) ggX4_booking_X4_isColour
set_option maxRecDepth 20000 in
theorem ggX4_booking_X4_in : GoodIn wsX4_booking wsX4_in := goodIn_r _ [7] (by decide +kernel) (by decide +kernel)
set_option maxRecDepth 20000 in
theorem gX4_booking_X4_in : GoodIn wsX4_booking (va_wsS RX4 24 yX4_in wsX4_in) := goodIn_app (goodIn_of _ (by decide +kernel)) ggX4_booking_X4_in
set_option maxRecDepth 20000 in
theorem ggX4_booking_X4_bookingAt : GoodIn wsX4_booking wsX4_bookingAt := goodIn_r _ [14, 15, 16, 17, 18, 3, 19, 20, 21, 22, 23, 24, 25, 26, 27, 28, 29, 30, 31, 32, 33, 34, 35, 36, 37, 38, 39, 40, 41, 42] (by decide +kernel) (by decide +kernel)
set_option maxRecDepth 20000 in
theorem gX4_booking_X4_bookingAt : GoodIn wsX4_booking (wsV RX4 118 RX4 yX4_bookingAt wsX4_bookingAt) := goodIn_app (goodIn_of _ (by decide +kernel)) ggX4_booking_X4_bookingAt
set_option maxRecDepth 20000 in
theorem ggX4_booking_X4_of : GoodIn wsX4_booking wsX4_of := goodIn_r _ [23, 15, 24, 25, 3, 26, 35, 36, 37, 38, 39, 40, 41, 42] (by decide +kernel) (by decide +kernel)
set_option maxRecDepth 20000 in
theorem gX4_booking_X4_of : GoodIn wsX4_booking (wsV RX4 28 RX4 yX4_of wsX4_of) := goodIn_app (goodIn_of _ (by decide +kernel)) ggX4_booking_X4_of
theorem dX4_booking_0 : decode cX4_booking 0 = .ok (.iload_n 1, 1) := by decide +kernel
theorem dX4_booking_1 : decode cX4_booking 1 = .ok (.invokestatic 95, 3) := by decide +kernel
theorem dX4_booking_4 : decode cX4_booking 4 = .ok (.ifCond .eq 10, 3) := by decide +kernel
theorem dX4_booking_7 : decode cX4_booking 7 = .ok (.iload_n 2, 1) := by decide +kernel
theorem dX4_booking_8 : decode cX4_booking 8 = .ok (.invokestatic 99, 3) := by decide +kernel
theorem dX4_booking_11 : decode cX4_booking 11 = .ok (.ifCond .ne 5, 3) := by decide +kernel
theorem dX4_booking_14 : decode cX4_booking 14 = .ok (.iconst (-1), 1) := by decide +kernel
theorem dX4_booking_15 : decode cX4_booking 15 = .ok (.ireturn, 1) := by decide +kernel
theorem dX4_booking_16 : decode cX4_booking 16 = .ok (.iload 4, 2) := by decide +kernel
theorem dX4_booking_18 : decode cX4_booking 18 = .ok (.iconst 0, 1) := by decide +kernel
theorem dX4_booking_19 : decode cX4_booking 19 = .ok (.iconst 2, 1) := by decide +kernel
theorem dX4_booking_20 : decode cX4_booking 20 = .ok (.invokestatic 24, 3) := by decide +kernel
theorem dX4_booking_23 : decode cX4_booking 23 = .ok (.ifCond .ne 6, 3) := by decide +kernel
theorem dX4_booking_26 : decode cX4_booking 26 = .ok (.bipush (-2), 2) := by decide +kernel
theorem dX4_booking_28 : decode cX4_booking 28 = .ok (.ireturn, 1) := by decide +kernel
theorem dX4_booking_29 : decode cX4_booking 29 = .ok (.aload_n 0, 1) := by decide +kernel
theorem dX4_booking_30 : decode cX4_booking 30 = .ok (.iload_n 1, 1) := by decide +kernel
theorem dX4_booking_31 : decode cX4_booking 31 = .ok (.iload_n 2, 1) := by decide +kernel
theorem dX4_booking_32 : decode cX4_booking 32 = .ok (.iload_n 3, 1) := by decide +kernel
theorem dX4_booking_33 : decode cX4_booking 33 = .ok (.invokevirtual 118, 3) := by decide +kernel
theorem dX4_booking_36 : decode cX4_booking 36 = .ok (.istore 5, 2) := by decide +kernel
theorem dX4_booking_38 : decode cX4_booking 38 = .ok (.iload 5, 2) := by decide +kernel
theorem dX4_booking_40 : decode cX4_booking 40 = .ok (.ifCond .ge 8, 3) := by decide +kernel
theorem dX4_booking_43 : decode cX4_booking 43 = .ok (.bipush (-6), 2) := by decide +kernel
theorem dX4_booking_45 : decode cX4_booking 45 = .ok (.goto 38, 3) := by decide +kernel
theorem dX4_booking_48 : decode cX4_booking 48 = .ok (.iload 4, 2) := by decide +kernel
theorem dX4_booking_50 : decode cX4_booking 50 = .ok (.ifCond .ne 14, 3) := by decide +kernel
theorem dX4_booking_53 : decode cX4_booking 53 = .ok (.aload_n 0, 1) := by decide +kernel
theorem dX4_booking_54 : decode cX4_booking 54 = .ok (.iload 5, 2) := by decide +kernel
theorem dX4_booking_56 : decode cX4_booking 56 = .ok (.bipush 8, 2) := by decide +kernel
theorem dX4_booking_58 : decode cX4_booking 58 = .ok (.invokevirtual 28, 3) := by decide +kernel
theorem dX4_booking_61 : decode cX4_booking 61 = .ok (.goto 22, 3) := by decide +kernel
theorem dX4_booking_64 : decode cX4_booking 64 = .ok (.iload 4, 2) := by decide +kernel
theorem dX4_booking_66 : decode cX4_booking 66 = .ok (.iconst 1, 1) := by decide +kernel
theorem dX4_booking_67 : decode cX4_booking 67 = .ok (.if_icmp .ne 14, 3) := by decide +kernel
theorem dX4_booking_70 : decode cX4_booking 70 = .ok (.aload_n 0, 1) := by decide +kernel
theorem dX4_booking_71 : decode cX4_booking 71 = .ok (.iload 5, 2) := by decide +kernel
theorem dX4_booking_73 : decode cX4_booking 73 = .ok (.bipush 9, 2) := by decide +kernel
theorem dX4_booking_75 : decode cX4_booking 75 = .ok (.invokevirtual 28, 3) := by decide +kernel
theorem dX4_booking_78 : decode cX4_booking 78 = .ok (.goto 5, 3) := by decide +kernel
theorem dX4_booking_81 : decode cX4_booking 81 = .ok (.iload 5, 2) := by decide +kernel
theorem dX4_booking_83 : decode cX4_booking 83 = .ok (.ireturn, 1) := by decide +kernel
set_option maxRecDepth 20000 in
theorem ggX4_held_X4_in : GoodIn wsX4_held wsX4_in := goodIn_r _ [4] (by decide +kernel) (by decide +kernel)
set_option maxRecDepth 20000 in
theorem gX4_held_X4_in : GoodIn wsX4_held (va_wsS RX4 24 yX4_in wsX4_in) := goodIn_app (goodIn_of _ (by decide +kernel)) ggX4_held_X4_in
set_option maxRecDepth 20000 in
theorem ggX4_held_X4_bookingAt : GoodIn wsX4_held wsX4_bookingAt := goodIn_r _ [8, 9, 10, 11, 12, 3, 13, 14, 15, 16, 17, 18, 19, 20, 21, 22, 23, 24, 25, 26, 27, 28, 29, 30, 31, 32, 33, 34, 35, 36] (by decide +kernel) (by decide +kernel)
set_option maxRecDepth 20000 in
theorem gX4_held_X4_bookingAt : GoodIn wsX4_held (wsV RX4 118 RX4 yX4_bookingAt wsX4_bookingAt) := goodIn_app (goodIn_of _ (by decide +kernel)) ggX4_held_X4_bookingAt
set_option maxRecDepth 20000 in
theorem ggX4_held_X4_of : GoodIn wsX4_held wsX4_of := goodIn_r _ [17, 9, 18, 19, 3, 20, 29, 30, 31, 32, 33, 34, 35, 36] (by decide +kernel) (by decide +kernel)
set_option maxRecDepth 20000 in
theorem gX4_held_X4_of : GoodIn wsX4_held (wsV RX4 28 RX4 yX4_of wsX4_of) := goodIn_app (goodIn_of _ (by decide +kernel)) ggX4_held_X4_of
theorem dX4_held_0 : decode cX4_held 0 = .ok (.iload_n 1, 1) := by decide +kernel
theorem dX4_held_1 : decode cX4_held 1 = .ok (.iconst 0, 1) := by decide +kernel
theorem dX4_held_2 : decode cX4_held 2 = .ok (.iconst 2, 1) := by decide +kernel
theorem dX4_held_3 : decode cX4_held 3 = .ok (.invokestatic 24, 3) := by decide +kernel
theorem dX4_held_6 : decode cX4_held 6 = .ok (.ifCond .ne 5, 3) := by decide +kernel
theorem dX4_held_9 : decode cX4_held 9 = .ok (.iconst (-1), 1) := by decide +kernel
theorem dX4_held_10 : decode cX4_held 10 = .ok (.ireturn, 1) := by decide +kernel
theorem dX4_held_11 : decode cX4_held 11 = .ok (.iload_n 3, 1) := by decide +kernel
theorem dX4_held_12 : decode cX4_held 12 = .ok (.iconst 0, 1) := by decide +kernel
theorem dX4_held_13 : decode cX4_held 13 = .ok (.iconst 2, 1) := by decide +kernel
theorem dX4_held_14 : decode cX4_held 14 = .ok (.invokestatic 24, 3) := by decide +kernel
theorem dX4_held_17 : decode cX4_held 17 = .ok (.ifCond .ne 6, 3) := by decide +kernel
theorem dX4_held_20 : decode cX4_held 20 = .ok (.bipush (-2), 2) := by decide +kernel
theorem dX4_held_22 : decode cX4_held 22 = .ok (.ireturn, 1) := by decide +kernel
theorem dX4_held_23 : decode cX4_held 23 = .ok (.aload_n 0, 1) := by decide +kernel
theorem dX4_held_24 : decode cX4_held 24 = .ok (.bipush (-6), 2) := by decide +kernel
theorem dX4_held_26 : decode cX4_held 26 = .ok (.iload_n 1, 1) := by decide +kernel
theorem dX4_held_27 : decode cX4_held 27 = .ok (.iload_n 2, 1) := by decide +kernel
theorem dX4_held_28 : decode cX4_held 28 = .ok (.invokevirtual 118, 3) := by decide +kernel
theorem dX4_held_31 : decode cX4_held 31 = .ok (.istore 4, 2) := by decide +kernel
theorem dX4_held_33 : decode cX4_held 33 = .ok (.iload 4, 2) := by decide +kernel
theorem dX4_held_35 : decode cX4_held 35 = .ok (.ifCond .ge 8, 3) := by decide +kernel
theorem dX4_held_38 : decode cX4_held 38 = .ok (.bipush (-6), 2) := by decide +kernel
theorem dX4_held_40 : decode cX4_held 40 = .ok (.goto 34, 3) := by decide +kernel
theorem dX4_held_43 : decode cX4_held 43 = .ok (.iload_n 3, 1) := by decide +kernel
theorem dX4_held_44 : decode cX4_held 44 = .ok (.ifCond .ne 13, 3) := by decide +kernel
theorem dX4_held_47 : decode cX4_held 47 = .ok (.aload_n 0, 1) := by decide +kernel
theorem dX4_held_48 : decode cX4_held 48 = .ok (.iload 4, 2) := by decide +kernel
theorem dX4_held_50 : decode cX4_held 50 = .ok (.iconst 5, 1) := by decide +kernel
theorem dX4_held_51 : decode cX4_held 51 = .ok (.invokevirtual 28, 3) := by decide +kernel
theorem dX4_held_54 : decode cX4_held 54 = .ok (.goto 20, 3) := by decide +kernel
theorem dX4_held_57 : decode cX4_held 57 = .ok (.iload_n 3, 1) := by decide +kernel
theorem dX4_held_58 : decode cX4_held 58 = .ok (.iconst 1, 1) := by decide +kernel
theorem dX4_held_59 : decode cX4_held 59 = .ok (.if_icmp .ne 13, 3) := by decide +kernel
theorem dX4_held_62 : decode cX4_held 62 = .ok (.aload_n 0, 1) := by decide +kernel
theorem dX4_held_63 : decode cX4_held 63 = .ok (.iload 4, 2) := by decide +kernel
theorem dX4_held_65 : decode cX4_held 65 = .ok (.iconst 4, 1) := by decide +kernel
theorem dX4_held_66 : decode cX4_held 66 = .ok (.invokevirtual 28, 3) := by decide +kernel
theorem dX4_held_69 : decode cX4_held 69 = .ok (.goto 5, 3) := by decide +kernel
theorem dX4_held_72 : decode cX4_held 72 = .ok (.iload 4, 2) := by decide +kernel
theorem dX4_held_74 : decode cX4_held 74 = .ok (.ireturn, 1) := by decide +kernel
set_option maxRecDepth 20000 in
theorem ggX4_isSpan_X4_in : GoodIn wsX4_isSpan wsX4_in := goodIn_r _ [4] (by decide +kernel) (by decide +kernel)
set_option maxRecDepth 20000 in
theorem gX4_isSpan_X4_in : GoodIn wsX4_isSpan (va_wsS RX4 24 yX4_in wsX4_in) := goodIn_app (goodIn_of _ (by decide +kernel)) ggX4_isSpan_X4_in
theorem dX4_isSpan_0 : decode cX4_isSpan 0 = .ok (.iload_n 0, 1) := by decide +kernel
theorem dX4_isSpan_1 : decode cX4_isSpan 1 = .ok (.iconst 0, 1) := by decide +kernel
theorem dX4_isSpan_2 : decode cX4_isSpan 2 = .ok (.sipush 20000, 3) := by decide +kernel
theorem dX4_isSpan_5 : decode cX4_isSpan 5 = .ok (.invokestatic 24, 3) := by decide +kernel
theorem dX4_isSpan_8 : decode cX4_isSpan 8 = .ok (.ifCond .eq 18, 3) := by decide +kernel
theorem dX4_isSpan_11 : decode cX4_isSpan 11 = .ok (.iload_n 1, 1) := by decide +kernel
theorem dX4_isSpan_12 : decode cX4_isSpan 12 = .ok (.iconst 1, 1) := by decide +kernel
theorem dX4_isSpan_13 : decode cX4_isSpan 13 = .ok (.sipush 2000, 3) := by decide +kernel
theorem dX4_isSpan_16 : decode cX4_isSpan 16 = .ok (.invokestatic 24, 3) := by decide +kernel
theorem dX4_isSpan_19 : decode cX4_isSpan 19 = .ok (.ifCond .eq 7, 3) := by decide +kernel
theorem dX4_isSpan_22 : decode cX4_isSpan 22 = .ok (.iconst 1, 1) := by decide +kernel
theorem dX4_isSpan_23 : decode cX4_isSpan 23 = .ok (.goto 4, 3) := by decide +kernel
theorem dX4_isSpan_26 : decode cX4_isSpan 26 = .ok (.iconst 0, 1) := by decide +kernel
theorem dX4_isSpan_27 : decode cX4_isSpan 27 = .ok (.ireturn, 1) := by decide +kernel
set_option maxRecDepth 20000 in
theorem ggX4_busy_X4_isOut : GoodIn wsX4_busy wsX4_isOut := goodIn_r _ [4, 5, 6, 3, 7] (by decide +kernel) (by decide +kernel)
set_option maxRecDepth 20000 in
theorem gX4_busy_X4_isOut : GoodIn wsX4_busy (va_wsS RX4 95 yX4_isOut wsX4_isOut) := goodIn_app (goodIn_of _ (by decide +kernel)) ggX4_busy_X4_isOut
set_option maxRecDepth 20000 in
theorem ggX4_busy_X4_isColour : GoodIn wsX4_busy wsX4_isColour := goodIn_r _ [10, 5, 6, 3, 7] (by decide +kernel) (by decide +kernel)
set_option maxRecDepth 20000 in
theorem gX4_busy_X4_isColour : GoodIn wsX4_busy (va_wsS RX4 99 yX4_isColour wsX4_isColour) := goodIn_app (goodIn_of _ (by decide +kernel)) ggX4_busy_X4_isColour
set_option maxRecDepth 20000 in
theorem ggX4_busy_X4_isSpan : GoodIn wsX4_busy wsX4_isSpan := goodIn_r _ [13, 5, 6, 3, 7] (by decide +kernel) (by decide +kernel)
set_option maxRecDepth 20000 in
theorem gX4_busy_X4_isSpan : GoodIn wsX4_busy (va_wsS RX4 121 yX4_isSpan wsX4_isSpan) := goodIn_app (goodIn_of _ (by decide +kernel)) ggX4_busy_X4_isSpan
set_option maxRecDepth 20000 in
theorem ggX4_busy_X4_isClear : GoodIn wsX4_busy wsX4_isClear := goodIn_r _ [17, 18, 19, 20, 21, 3, 22, 23, 24, 25, 26, 27, 28, 29, 30, 31, 32, 33, 34, 35, 36, 37, 38, 39, 40] (by decide +kernel) (by decide +kernel)
set_option maxRecDepth 20000 in
theorem gX4_busy_X4_isClear : GoodIn wsX4_busy (wsV RX4 42 RX4 yX4_isClear wsX4_isClear) := goodIn_app (goodIn_of _ (by decide +kernel)) ggX4_busy_X4_isClear
theorem dX4_busy_0 : decode cX4_busy 0 = .ok (.iload_n 1, 1) := by decide +kernel
theorem dX4_busy_1 : decode cX4_busy 1 = .ok (.invokestatic 95, 3) := by decide +kernel
theorem dX4_busy_4 : decode cX4_busy 4 = .ok (.ifCond .eq 10, 3) := by decide +kernel
theorem dX4_busy_7 : decode cX4_busy 7 = .ok (.iload_n 2, 1) := by decide +kernel
theorem dX4_busy_8 : decode cX4_busy 8 = .ok (.invokestatic 99, 3) := by decide +kernel
theorem dX4_busy_11 : decode cX4_busy 11 = .ok (.ifCond .ne 5, 3) := by decide +kernel
theorem dX4_busy_14 : decode cX4_busy 14 = .ok (.iconst (-1), 1) := by decide +kernel
theorem dX4_busy_15 : decode cX4_busy 15 = .ok (.ireturn, 1) := by decide +kernel
theorem dX4_busy_16 : decode cX4_busy 16 = .ok (.iload_n 3, 1) := by decide +kernel
theorem dX4_busy_17 : decode cX4_busy 17 = .ok (.iload 4, 2) := by decide +kernel
theorem dX4_busy_19 : decode cX4_busy 19 = .ok (.invokestatic 121, 3) := by decide +kernel
theorem dX4_busy_22 : decode cX4_busy 22 = .ok (.ifCond .ne 6, 3) := by decide +kernel
theorem dX4_busy_25 : decode cX4_busy 25 = .ok (.bipush (-2), 2) := by decide +kernel
theorem dX4_busy_27 : decode cX4_busy 27 = .ok (.ireturn, 1) := by decide +kernel
theorem dX4_busy_28 : decode cX4_busy 28 = .ok (.iconst 0, 1) := by decide +kernel
theorem dX4_busy_29 : decode cX4_busy 29 = .ok (.istore 5, 2) := by decide +kernel
theorem dX4_busy_31 : decode cX4_busy 31 = .ok (.iload_n 3, 1) := by decide +kernel
theorem dX4_busy_32 : decode cX4_busy 32 = .ok (.istore 6, 2) := by decide +kernel
theorem dX4_busy_34 : decode cX4_busy 34 = .ok (.iload 6, 2) := by decide +kernel
theorem dX4_busy_36 : decode cX4_busy 36 = .ok (.iload_n 3, 1) := by decide +kernel
theorem dX4_busy_37 : decode cX4_busy 37 = .ok (.iload 4, 2) := by decide +kernel
theorem dX4_busy_39 : decode cX4_busy 39 = .ok (.iadd, 1) := by decide +kernel
theorem dX4_busy_40 : decode cX4_busy 40 = .ok (.if_icmp .ge 31, 3) := by decide +kernel
theorem dX4_busy_43 : decode cX4_busy 43 = .ok (.iload 5, 2) := by decide +kernel
theorem dX4_busy_45 : decode cX4_busy 45 = .ok (.aload_n 0, 1) := by decide +kernel
theorem dX4_busy_46 : decode cX4_busy 46 = .ok (.iload_n 1, 1) := by decide +kernel
theorem dX4_busy_47 : decode cX4_busy 47 = .ok (.iload_n 2, 1) := by decide +kernel
theorem dX4_busy_48 : decode cX4_busy 48 = .ok (.iload 6, 2) := by decide +kernel
theorem dX4_busy_50 : decode cX4_busy 50 = .ok (.iconst 1, 1) := by decide +kernel
theorem dX4_busy_51 : decode cX4_busy 51 = .ok (.invokevirtual 42, 3) := by decide +kernel
theorem dX4_busy_54 : decode cX4_busy 54 = .ok (.ifCond .eq 7, 3) := by decide +kernel
theorem dX4_busy_57 : decode cX4_busy 57 = .ok (.iconst 0, 1) := by decide +kernel
theorem dX4_busy_58 : decode cX4_busy 58 = .ok (.goto 4, 3) := by decide +kernel
theorem dX4_busy_61 : decode cX4_busy 61 = .ok (.iconst 1, 1) := by decide +kernel
theorem dX4_busy_62 : decode cX4_busy 62 = .ok (.iadd, 1) := by decide +kernel
theorem dX4_busy_63 : decode cX4_busy 63 = .ok (.istore 5, 2) := by decide +kernel
theorem dX4_busy_65 : decode cX4_busy 65 = .ok (.iinc 6 1, 3) := by decide +kernel
theorem dX4_busy_68 : decode cX4_busy 68 = .ok (.goto (-34), 3) := by decide +kernel
theorem dX4_busy_71 : decode cX4_busy 71 = .ok (.iload 5, 2) := by decide +kernel
theorem dX4_busy_73 : decode cX4_busy 73 = .ok (.ireturn, 1) := by decide +kernel
set_option maxRecDepth 20000 in
theorem ggX4_free_X4_isOut : GoodIn wsX4_free wsX4_isOut := goodIn_r _ [4, 5, 6, 3, 7] (by decide +kernel) (by decide +kernel)
set_option maxRecDepth 20000 in
theorem gX4_free_X4_isOut : GoodIn wsX4_free (va_wsS RX4 95 yX4_isOut wsX4_isOut) := goodIn_app (goodIn_of _ (by decide +kernel)) ggX4_free_X4_isOut
set_option maxRecDepth 20000 in
theorem ggX4_free_X4_isSpan : GoodIn wsX4_free wsX4_isSpan := goodIn_r _ [10, 5, 6, 3, 7] (by decide +kernel) (by decide +kernel)
set_option maxRecDepth 20000 in
theorem gX4_free_X4_isSpan : GoodIn wsX4_free (va_wsS RX4 121 yX4_isSpan wsX4_isSpan) := goodIn_app (goodIn_of _ (by decide +kernel)) ggX4_free_X4_isSpan
set_option maxRecDepth 20000 in
theorem ggX4_free_X4_isClear : GoodIn wsX4_free wsX4_isClear := goodIn_r _ [14, 15, 16, 17, 18, 3, 19, 20, 21, 22, 23, 24, 25, 26, 27, 28, 29, 30, 31, 32, 33, 34, 35, 36, 37] (by decide +kernel) (by decide +kernel)
set_option maxRecDepth 20000 in
theorem gX4_free_X4_isClear : GoodIn wsX4_free (wsV RX4 42 RX4 yX4_isClear wsX4_isClear) := goodIn_app (goodIn_of _ (by decide +kernel)) ggX4_free_X4_isClear
theorem dX4_free_0 : decode cX4_free 0 = .ok (.iload_n 1, 1) := by decide +kernel
theorem dX4_free_1 : decode cX4_free 1 = .ok (.invokestatic 95, 3) := by decide +kernel
theorem dX4_free_4 : decode cX4_free 4 = .ok (.ifCond .ne 5, 3) := by decide +kernel
theorem dX4_free_7 : decode cX4_free 7 = .ok (.iconst (-1), 1) := by decide +kernel
theorem dX4_free_8 : decode cX4_free 8 = .ok (.ireturn, 1) := by decide +kernel
theorem dX4_free_9 : decode cX4_free 9 = .ok (.iload_n 2, 1) := by decide +kernel
theorem dX4_free_10 : decode cX4_free 10 = .ok (.iload_n 3, 1) := by decide +kernel
theorem dX4_free_11 : decode cX4_free 11 = .ok (.invokestatic 121, 3) := by decide +kernel
theorem dX4_free_14 : decode cX4_free 14 = .ok (.ifCond .ne 6, 3) := by decide +kernel
theorem dX4_free_17 : decode cX4_free 17 = .ok (.bipush (-2), 2) := by decide +kernel
theorem dX4_free_19 : decode cX4_free 19 = .ok (.ireturn, 1) := by decide +kernel
theorem dX4_free_20 : decode cX4_free 20 = .ok (.iconst 0, 1) := by decide +kernel
theorem dX4_free_21 : decode cX4_free 21 = .ok (.istore 4, 2) := by decide +kernel
theorem dX4_free_23 : decode cX4_free 23 = .ok (.iconst 0, 1) := by decide +kernel
theorem dX4_free_24 : decode cX4_free 24 = .ok (.istore 5, 2) := by decide +kernel
theorem dX4_free_26 : decode cX4_free 26 = .ok (.iload 5, 2) := by decide +kernel
theorem dX4_free_28 : decode cX4_free 28 = .ok (.bipush 6, 2) := by decide +kernel
theorem dX4_free_30 : decode cX4_free 30 = .ok (.if_icmp .ge 34, 3) := by decide +kernel
theorem dX4_free_33 : decode cX4_free 33 = .ok (.iload 4, 2) := by decide +kernel
theorem dX4_free_35 : decode cX4_free 35 = .ok (.aload_n 0, 1) := by decide +kernel
theorem dX4_free_36 : decode cX4_free 36 = .ok (.iload_n 1, 1) := by decide +kernel
theorem dX4_free_37 : decode cX4_free 37 = .ok (.iload 5, 2) := by decide +kernel
theorem dX4_free_39 : decode cX4_free 39 = .ok (.iload_n 2, 1) := by decide +kernel
theorem dX4_free_40 : decode cX4_free 40 = .ok (.iload_n 3, 1) := by decide +kernel
theorem dX4_free_41 : decode cX4_free 41 = .ok (.invokevirtual 42, 3) := by decide +kernel
theorem dX4_free_44 : decode cX4_free 44 = .ok (.ifCond .eq 10, 3) := by decide +kernel
theorem dX4_free_47 : decode cX4_free 47 = .ok (.iconst 1, 1) := by decide +kernel
theorem dX4_free_48 : decode cX4_free 48 = .ok (.iload 5, 2) := by decide +kernel
theorem dX4_free_50 : decode cX4_free 50 = .ok (.ishl, 1) := by decide +kernel
theorem dX4_free_51 : decode cX4_free 51 = .ok (.goto 4, 3) := by decide +kernel
theorem dX4_free_54 : decode cX4_free 54 = .ok (.iconst 0, 1) := by decide +kernel
theorem dX4_free_55 : decode cX4_free 55 = .ok (.ior, 1) := by decide +kernel
theorem dX4_free_56 : decode cX4_free 56 = .ok (.istore 4, 2) := by decide +kernel
theorem dX4_free_58 : decode cX4_free 58 = .ok (.iinc 5 1, 3) := by decide +kernel
theorem dX4_free_61 : decode cX4_free 61 = .ok (.goto (-35), 3) := by decide +kernel
theorem dX4_free_64 : decode cX4_free 64 = .ok (.iload 4, 2) := by decide +kernel
theorem dX4_free_66 : decode cX4_free 66 = .ok (.ireturn, 1) := by decide +kernel
set_option maxRecDepth 20000 in
theorem ggX4_next_X4_isOut : GoodIn wsX4_next wsX4_isOut := goodIn_r _ [5, 6, 7, 4, 8] (by decide +kernel) (by decide +kernel)
set_option maxRecDepth 20000 in
theorem gX4_next_X4_isOut : GoodIn wsX4_next (va_wsS RX4 95 yX4_isOut wsX4_isOut) := goodIn_app (goodIn_of _ (by decide +kernel)) ggX4_next_X4_isOut
set_option maxRecDepth 20000 in
theorem ggX4_next_X4_isColour : GoodIn wsX4_next wsX4_isColour := goodIn_r _ [11, 6, 7, 4, 8] (by decide +kernel) (by decide +kernel)
set_option maxRecDepth 20000 in
theorem gX4_next_X4_isColour : GoodIn wsX4_next (va_wsS RX4 99 yX4_isColour wsX4_isColour) := goodIn_app (goodIn_of _ (by decide +kernel)) ggX4_next_X4_isColour
set_option maxRecDepth 20000 in
theorem ggX4_next_X4_isSpan : GoodIn wsX4_next wsX4_isSpan := goodIn_r _ [14, 6, 7, 4, 8] (by decide +kernel) (by decide +kernel)
set_option maxRecDepth 20000 in
theorem gX4_next_X4_isSpan : GoodIn wsX4_next (va_wsS RX4 121 yX4_isSpan wsX4_isSpan) := goodIn_app (goodIn_of _ (by decide +kernel)) ggX4_next_X4_isSpan
set_option maxRecDepth 20000 in
theorem ggX4_next_X4_isOn : GoodIn wsX4_next wsX4_isOn := goodIn_r _ [18, 19, 20, 21, 4, 22, 1, 23, 24, 25, 33, 34, 35, 36, 37, 38, 39, 40] (by decide +kernel) (by decide +kernel)
set_option maxRecDepth 20000 in
theorem gX4_next_X4_isOn : GoodIn wsX4_next (wsV RX4 35 RX4 yX4_isOn wsX4_isOn) := goodIn_app (goodIn_of _ (by decide +kernel)) ggX4_next_X4_isOn
set_option maxRecDepth 20000 in
theorem ggX4_next_X4_of : GoodIn wsX4_next wsX4_of := goodIn_r _ [22, 1, 23, 24, 4, 25, 33, 34, 35, 36, 37, 38, 39, 40] (by decide +kernel) (by decide +kernel)
set_option maxRecDepth 20000 in
theorem gX4_next_X4_of : GoodIn wsX4_next (wsV RX4 28 RX4 yX4_of wsX4_of) := goodIn_app (goodIn_of _ (by decide +kernel)) ggX4_next_X4_of
set_option maxRecDepth 20000 in
theorem ggX4_next_X4_isClear : GoodIn wsX4_next wsX4_isClear := goodIn_r _ [29, 1, 15, 16, 17, 4, 18, 19, 20, 21, 22, 23, 24, 25, 30, 31, 32, 33, 34, 35, 36, 37, 38, 39, 40] (by decide +kernel) (by decide +kernel)
set_option maxRecDepth 20000 in
theorem gX4_next_X4_isClear : GoodIn wsX4_next (wsV RX4 42 RX4 yX4_isClear wsX4_isClear) := goodIn_app (goodIn_of _ (by decide +kernel)) ggX4_next_X4_isClear
theorem dX4_next_0 : decode cX4_next 0 = .ok (.iload_n 1, 1) := by decide +kernel
theorem dX4_next_1 : decode cX4_next 1 = .ok (.invokestatic 95, 3) := by decide +kernel
theorem dX4_next_4 : decode cX4_next 4 = .ok (.ifCond .eq 10, 3) := by decide +kernel
theorem dX4_next_7 : decode cX4_next 7 = .ok (.iload_n 2, 1) := by decide +kernel
theorem dX4_next_8 : decode cX4_next 8 = .ok (.invokestatic 99, 3) := by decide +kernel
theorem dX4_next_11 : decode cX4_next 11 = .ok (.ifCond .ne 5, 3) := by decide +kernel
theorem dX4_next_14 : decode cX4_next 14 = .ok (.iconst (-1), 1) := by decide +kernel
theorem dX4_next_15 : decode cX4_next 15 = .ok (.ireturn, 1) := by decide +kernel
theorem dX4_next_16 : decode cX4_next 16 = .ok (.iload_n 3, 1) := by decide +kernel
theorem dX4_next_17 : decode cX4_next 17 = .ok (.iload 4, 2) := by decide +kernel
theorem dX4_next_19 : decode cX4_next 19 = .ok (.invokestatic 121, 3) := by decide +kernel
theorem dX4_next_22 : decode cX4_next 22 = .ok (.ifCond .ne 6, 3) := by decide +kernel
theorem dX4_next_25 : decode cX4_next 25 = .ok (.bipush (-2), 2) := by decide +kernel
theorem dX4_next_27 : decode cX4_next 27 = .ok (.ireturn, 1) := by decide +kernel
theorem dX4_next_28 : decode cX4_next 28 = .ok (.bipush (-6), 2) := by decide +kernel
theorem dX4_next_30 : decode cX4_next 30 = .ok (.istore 5, 2) := by decide +kernel
theorem dX4_next_32 : decode cX4_next 32 = .ok (.iconst (-1), 1) := by decide +kernel
theorem dX4_next_33 : decode cX4_next 33 = .ok (.istore 6, 2) := by decide +kernel
theorem dX4_next_35 : decode cX4_next 35 = .ok (.iload 6, 2) := by decide +kernel
theorem dX4_next_37 : decode cX4_next 37 = .ok (.aload_n 0, 1) := by decide +kernel
theorem dX4_next_38 : decode cX4_next 38 = .ok (.getfield 7, 3) := by decide +kernel
theorem dX4_next_41 : decode cX4_next 41 = .ok (.bipush 10, 2) := by decide +kernel
theorem dX4_next_43 : decode cX4_next 43 = .ok (.iaload, 1) := by decide +kernel
theorem dX4_next_44 : decode cX4_next 44 = .ok (.if_icmp .ge 87, 3) := by decide +kernel
theorem dX4_next_47 : decode cX4_next 47 = .ok (.iload 6, 2) := by decide +kernel
theorem dX4_next_49 : decode cX4_next 49 = .ok (.ifCond .ge 7, 3) := by decide +kernel
theorem dX4_next_52 : decode cX4_next 52 = .ok (.iload_n 3, 1) := by decide +kernel
theorem dX4_next_53 : decode cX4_next 53 = .ok (.goto 35, 3) := by decide +kernel
theorem dX4_next_56 : decode cX4_next 56 = .ok (.aload_n 0, 1) := by decide +kernel
theorem dX4_next_57 : decode cX4_next 57 = .ok (.iload 6, 2) := by decide +kernel
theorem dX4_next_59 : decode cX4_next 59 = .ok (.iload_n 1, 1) := by decide +kernel
theorem dX4_next_60 : decode cX4_next 60 = .ok (.iload_n 2, 1) := by decide +kernel
theorem dX4_next_61 : decode cX4_next 61 = .ok (.invokevirtual 35, 3) := by decide +kernel
theorem dX4_next_64 : decode cX4_next 64 = .ok (.ifCond .eq 23, 3) := by decide +kernel
theorem dX4_next_67 : decode cX4_next 67 = .ok (.aload_n 0, 1) := by decide +kernel
theorem dX4_next_68 : decode cX4_next 68 = .ok (.iload 6, 2) := by decide +kernel
theorem dX4_next_70 : decode cX4_next 70 = .ok (.bipush 8, 2) := by decide +kernel
theorem dX4_next_72 : decode cX4_next 72 = .ok (.invokevirtual 28, 3) := by decide +kernel
theorem dX4_next_75 : decode cX4_next 75 = .ok (.aload_n 0, 1) := by decide +kernel
theorem dX4_next_76 : decode cX4_next 76 = .ok (.iload 6, 2) := by decide +kernel
theorem dX4_next_78 : decode cX4_next 78 = .ok (.bipush 9, 2) := by decide +kernel
theorem dX4_next_80 : decode cX4_next 80 = .ok (.invokevirtual 28, 3) := by decide +kernel
theorem dX4_next_83 : decode cX4_next 83 = .ok (.iadd, 1) := by decide +kernel
theorem dX4_next_84 : decode cX4_next 84 = .ok (.goto 4, 3) := by decide +kernel
theorem dX4_next_87 : decode cX4_next 87 = .ok (.iload_n 3, 1) := by decide +kernel
theorem dX4_next_88 : decode cX4_next 88 = .ok (.istore 7, 2) := by decide +kernel
theorem dX4_next_90 : decode cX4_next 90 = .ok (.iload 7, 2) := by decide +kernel
theorem dX4_next_92 : decode cX4_next 92 = .ok (.iload_n 3, 1) := by decide +kernel
theorem dX4_next_93 : decode cX4_next 93 = .ok (.if_icmp .lt 32, 3) := by decide +kernel
theorem dX4_next_96 : decode cX4_next 96 = .ok (.iload 5, 2) := by decide +kernel
theorem dX4_next_98 : decode cX4_next 98 = .ok (.ifCond .lt 10, 3) := by decide +kernel
theorem dX4_next_101 : decode cX4_next 101 = .ok (.iload 7, 2) := by decide +kernel
theorem dX4_next_103 : decode cX4_next 103 = .ok (.iload 5, 2) := by decide +kernel
theorem dX4_next_105 : decode cX4_next 105 = .ok (.if_icmp .ge 20, 3) := by decide +kernel
theorem dX4_next_108 : decode cX4_next 108 = .ok (.aload_n 0, 1) := by decide +kernel
theorem dX4_next_109 : decode cX4_next 109 = .ok (.iload_n 1, 1) := by decide +kernel
theorem dX4_next_110 : decode cX4_next 110 = .ok (.iload_n 2, 1) := by decide +kernel
theorem dX4_next_111 : decode cX4_next 111 = .ok (.iload 7, 2) := by decide +kernel
theorem dX4_next_113 : decode cX4_next 113 = .ok (.iload 4, 2) := by decide +kernel
theorem dX4_next_115 : decode cX4_next 115 = .ok (.invokevirtual 42, 3) := by decide +kernel
theorem dX4_next_118 : decode cX4_next 118 = .ok (.ifCond .eq 7, 3) := by decide +kernel
theorem dX4_next_121 : decode cX4_next 121 = .ok (.iload 7, 2) := by decide +kernel
theorem dX4_next_123 : decode cX4_next 123 = .ok (.istore 5, 2) := by decide +kernel
theorem dX4_next_125 : decode cX4_next 125 = .ok (.iinc 6 1, 3) := by decide +kernel
theorem dX4_next_128 : decode cX4_next 128 = .ok (.goto (-93), 3) := by decide +kernel
theorem dX4_next_131 : decode cX4_next 131 = .ok (.iload 5, 2) := by decide +kernel
theorem dX4_next_133 : decode cX4_next 133 = .ok (.ireturn, 1) := by decide +kernel
set_option maxRecDepth 20000 in
theorem ggX4_hole_X4_isOut : GoodIn wsX4_hole wsX4_isOut := goodIn_r _ [5, 6, 7, 4, 8] (by decide +kernel) (by decide +kernel)
set_option maxRecDepth 20000 in
theorem gX4_hole_X4_isOut : GoodIn wsX4_hole (va_wsS RX4 95 yX4_isOut wsX4_isOut) := goodIn_app (goodIn_of _ (by decide +kernel)) ggX4_hole_X4_isOut
set_option maxRecDepth 20000 in
theorem ggX4_hole_X4_isColour : GoodIn wsX4_hole wsX4_isColour := goodIn_r _ [11, 6, 7, 4, 8] (by decide +kernel) (by decide +kernel)
set_option maxRecDepth 20000 in
theorem gX4_hole_X4_isColour : GoodIn wsX4_hole (va_wsS RX4 99 yX4_isColour wsX4_isColour) := goodIn_app (goodIn_of _ (by decide +kernel)) ggX4_hole_X4_isColour
set_option maxRecDepth 20000 in
theorem ggX4_hole_X4_in : GoodIn wsX4_hole wsX4_in := goodIn_r _ [8] (by decide +kernel) (by decide +kernel)
set_option maxRecDepth 20000 in
theorem gX4_hole_X4_in : GoodIn wsX4_hole (va_wsS RX4 24 yX4_in wsX4_in) := goodIn_app (goodIn_of _ (by decide +kernel)) ggX4_hole_X4_in
set_option maxRecDepth 20000 in
theorem ggX4_hole_X4_bookingAt : GoodIn wsX4_hole wsX4_bookingAt := goodIn_r _ [15, 1, 16, 17, 18, 4, 19, 20, 21, 22, 23, 24, 25, 26, 27, 28, 29, 30, 31, 32, 33, 34, 35, 36, 37, 38, 39, 40, 41, 42] (by decide +kernel) (by decide +kernel)
set_option maxRecDepth 20000 in
theorem gX4_hole_X4_bookingAt : GoodIn wsX4_hole (wsV RX4 118 RX4 yX4_bookingAt wsX4_bookingAt) := goodIn_app (goodIn_of _ (by decide +kernel)) ggX4_hole_X4_bookingAt
set_option maxRecDepth 20000 in
theorem ggX4_hole_X4_of : GoodIn wsX4_hole wsX4_of := goodIn_r _ [23, 1, 24, 25, 4, 26, 35, 36, 37, 38, 39, 40, 41, 42] (by decide +kernel) (by decide +kernel)
set_option maxRecDepth 20000 in
theorem gX4_hole_X4_of : GoodIn wsX4_hole (wsV RX4 28 RX4 yX4_of wsX4_of) := goodIn_app (goodIn_of _ (by decide +kernel)) ggX4_hole_X4_of
theorem dX4_hole_0 : decode cX4_hole 0 = .ok (.iload_n 1, 1) := by decide +kernel
theorem dX4_hole_1 : decode cX4_hole 1 = .ok (.invokestatic 95, 3) := by decide +kernel
theorem dX4_hole_4 : decode cX4_hole 4 = .ok (.ifCond .eq 10, 3) := by decide +kernel
theorem dX4_hole_7 : decode cX4_hole 7 = .ok (.iload_n 2, 1) := by decide +kernel
theorem dX4_hole_8 : decode cX4_hole 8 = .ok (.invokestatic 99, 3) := by decide +kernel
theorem dX4_hole_11 : decode cX4_hole 11 = .ok (.ifCond .ne 5, 3) := by decide +kernel
theorem dX4_hole_14 : decode cX4_hole 14 = .ok (.iconst (-1), 1) := by decide +kernel
theorem dX4_hole_15 : decode cX4_hole 15 = .ok (.ireturn, 1) := by decide +kernel
theorem dX4_hole_16 : decode cX4_hole 16 = .ok (.iload 4, 2) := by decide +kernel
theorem dX4_hole_18 : decode cX4_hole 18 = .ok (.iconst 0, 1) := by decide +kernel
theorem dX4_hole_19 : decode cX4_hole 19 = .ok (.iconst 1, 1) := by decide +kernel
theorem dX4_hole_20 : decode cX4_hole 20 = .ok (.invokestatic 24, 3) := by decide +kernel
theorem dX4_hole_23 : decode cX4_hole 23 = .ok (.ifCond .ne 6, 3) := by decide +kernel
theorem dX4_hole_26 : decode cX4_hole 26 = .ok (.bipush (-2), 2) := by decide +kernel
theorem dX4_hole_28 : decode cX4_hole 28 = .ok (.ireturn, 1) := by decide +kernel
theorem dX4_hole_29 : decode cX4_hole 29 = .ok (.iconst 0, 1) := by decide +kernel
theorem dX4_hole_30 : decode cX4_hole 30 = .ok (.istore 5, 2) := by decide +kernel
theorem dX4_hole_32 : decode cX4_hole 32 = .ok (.aload_n 0, 1) := by decide +kernel
theorem dX4_hole_33 : decode cX4_hole 33 = .ok (.getfield 7, 3) := by decide +kernel
theorem dX4_hole_36 : decode cX4_hole 36 = .ok (.bipush 9, 2) := by decide +kernel
theorem dX4_hole_38 : decode cX4_hole 38 = .ok (.iaload, 1) := by decide +kernel
theorem dX4_hole_39 : decode cX4_hole 39 = .ok (.istore 6, 2) := by decide +kernel
theorem dX4_hole_41 : decode cX4_hole 41 = .ok (.iconst 0, 1) := by decide +kernel
theorem dX4_hole_42 : decode cX4_hole 42 = .ok (.istore 7, 2) := by decide +kernel
theorem dX4_hole_44 : decode cX4_hole 44 = .ok (.iload 7, 2) := by decide +kernel
theorem dX4_hole_46 : decode cX4_hole 46 = .ok (.aload_n 0, 1) := by decide +kernel
theorem dX4_hole_47 : decode cX4_hole 47 = .ok (.getfield 7, 3) := by decide +kernel
theorem dX4_hole_50 : decode cX4_hole 50 = .ok (.bipush 10, 2) := by decide +kernel
theorem dX4_hole_52 : decode cX4_hole 52 = .ok (.iaload, 1) := by decide +kernel
theorem dX4_hole_53 : decode cX4_hole 53 = .ok (.if_icmp .ge 134, 3) := by decide +kernel
theorem dX4_hole_56 : decode cX4_hole 56 = .ok (.aload_n 0, 1) := by decide +kernel
theorem dX4_hole_57 : decode cX4_hole 57 = .ok (.iload_n 1, 1) := by decide +kernel
theorem dX4_hole_58 : decode cX4_hole 58 = .ok (.iload_n 2, 1) := by decide +kernel
theorem dX4_hole_59 : decode cX4_hole 59 = .ok (.iload 7, 2) := by decide +kernel
theorem dX4_hole_61 : decode cX4_hole 61 = .ok (.invokevirtual 118, 3) := by decide +kernel
theorem dX4_hole_64 : decode cX4_hole 64 = .ok (.istore 8, 2) := by decide +kernel
theorem dX4_hole_66 : decode cX4_hole 66 = .ok (.iload 8, 2) := by decide +kernel
theorem dX4_hole_68 : decode cX4_hole 68 = .ok (.ifCond .ge 6, 3) := by decide +kernel
theorem dX4_hole_71 : decode cX4_hole 71 = .ok (.bipush (-6), 2) := by decide +kernel
theorem dX4_hole_73 : decode cX4_hole 73 = .ok (.ireturn, 1) := by decide +kernel
theorem dX4_hole_74 : decode cX4_hole 74 = .ok (.iload 6, 2) := by decide +kernel
theorem dX4_hole_76 : decode cX4_hole 76 = .ok (.aload_n 0, 1) := by decide +kernel
theorem dX4_hole_77 : decode cX4_hole 77 = .ok (.getfield 7, 3) := by decide +kernel
theorem dX4_hole_80 : decode cX4_hole 80 = .ok (.bipush 9, 2) := by decide +kernel
theorem dX4_hole_82 : decode cX4_hole 82 = .ok (.iaload, 1) := by decide +kernel
theorem dX4_hole_83 : decode cX4_hole 83 = .ok (.if_icmp .le 8, 3) := by decide +kernel
theorem dX4_hole_86 : decode cX4_hole 86 = .ok (.iload 6, 2) := by decide +kernel
theorem dX4_hole_88 : decode cX4_hole 88 = .ok (.goto 10, 3) := by decide +kernel
theorem dX4_hole_91 : decode cX4_hole 91 = .ok (.aload_n 0, 1) := by decide +kernel
theorem dX4_hole_92 : decode cX4_hole 92 = .ok (.getfield 7, 3) := by decide +kernel
theorem dX4_hole_95 : decode cX4_hole 95 = .ok (.bipush 9, 2) := by decide +kernel
theorem dX4_hole_97 : decode cX4_hole 97 = .ok (.iaload, 1) := by decide +kernel
theorem dX4_hole_98 : decode cX4_hole 98 = .ok (.istore 9, 2) := by decide +kernel
theorem dX4_hole_100 : decode cX4_hole 100 = .ok (.aload_n 0, 1) := by decide +kernel
theorem dX4_hole_101 : decode cX4_hole 101 = .ok (.iload 8, 2) := by decide +kernel
theorem dX4_hole_103 : decode cX4_hole 103 = .ok (.bipush 8, 2) := by decide +kernel
theorem dX4_hole_105 : decode cX4_hole 105 = .ok (.invokevirtual 28, 3) := by decide +kernel
theorem dX4_hole_108 : decode cX4_hole 108 = .ok (.aload_n 0, 1) := by decide +kernel
theorem dX4_hole_109 : decode cX4_hole 109 = .ok (.getfield 7, 3) := by decide +kernel
theorem dX4_hole_112 : decode cX4_hole 112 = .ok (.bipush 9, 2) := by decide +kernel
theorem dX4_hole_114 : decode cX4_hole 114 = .ok (.iaload, 1) := by decide +kernel
theorem dX4_hole_115 : decode cX4_hole 115 = .ok (.if_icmp .le 47, 3) := by decide +kernel
theorem dX4_hole_118 : decode cX4_hole 118 = .ok (.iload 9, 2) := by decide +kernel
theorem dX4_hole_120 : decode cX4_hole 120 = .ok (.aload_n 0, 1) := by decide +kernel
theorem dX4_hole_121 : decode cX4_hole 121 = .ok (.iload 8, 2) := by decide +kernel
theorem dX4_hole_123 : decode cX4_hole 123 = .ok (.bipush 8, 2) := by decide +kernel
theorem dX4_hole_125 : decode cX4_hole 125 = .ok (.invokevirtual 28, 3) := by decide +kernel
theorem dX4_hole_128 : decode cX4_hole 128 = .ok (.if_icmp .ge 34, 3) := by decide +kernel
theorem dX4_hole_131 : decode cX4_hole 131 = .ok (.iload 5, 2) := by decide +kernel
theorem dX4_hole_133 : decode cX4_hole 133 = .ok (.iload_n 3, 1) := by decide +kernel
theorem dX4_hole_134 : decode cX4_hole 134 = .ok (.if_icmp .ne 25, 3) := by decide +kernel
theorem dX4_hole_137 : decode cX4_hole 137 = .ok (.iload 4, 2) := by decide +kernel
theorem dX4_hole_139 : decode cX4_hole 139 = .ok (.ifCond .ne 8, 3) := by decide +kernel
theorem dX4_hole_142 : decode cX4_hole 142 = .ok (.iload 9, 2) := by decide +kernel
theorem dX4_hole_144 : decode cX4_hole 144 = .ok (.goto 14, 3) := by decide +kernel
theorem dX4_hole_147 : decode cX4_hole 147 = .ok (.aload_n 0, 1) := by decide +kernel
theorem dX4_hole_148 : decode cX4_hole 148 = .ok (.iload 8, 2) := by decide +kernel
theorem dX4_hole_150 : decode cX4_hole 150 = .ok (.bipush 8, 2) := by decide +kernel
theorem dX4_hole_152 : decode cX4_hole 152 = .ok (.invokevirtual 28, 3) := by decide +kernel
theorem dX4_hole_155 : decode cX4_hole 155 = .ok (.iload 9, 2) := by decide +kernel
theorem dX4_hole_157 : decode cX4_hole 157 = .ok (.isub, 1) := by decide +kernel
theorem dX4_hole_158 : decode cX4_hole 158 = .ok (.ireturn, 1) := by decide +kernel
theorem dX4_hole_159 : decode cX4_hole 159 = .ok (.iinc 5 1, 3) := by decide +kernel
theorem dX4_hole_162 : decode cX4_hole 162 = .ok (.aload_n 0, 1) := by decide +kernel
theorem dX4_hole_163 : decode cX4_hole 163 = .ok (.iload 8, 2) := by decide +kernel
theorem dX4_hole_165 : decode cX4_hole 165 = .ok (.bipush 8, 2) := by decide +kernel
theorem dX4_hole_167 : decode cX4_hole 167 = .ok (.invokevirtual 28, 3) := by decide +kernel
theorem dX4_hole_170 : decode cX4_hole 170 = .ok (.aload_n 0, 1) := by decide +kernel
theorem dX4_hole_171 : decode cX4_hole 171 = .ok (.iload 8, 2) := by decide +kernel
theorem dX4_hole_173 : decode cX4_hole 173 = .ok (.bipush 9, 2) := by decide +kernel
theorem dX4_hole_175 : decode cX4_hole 175 = .ok (.invokevirtual 28, 3) := by decide +kernel
theorem dX4_hole_178 : decode cX4_hole 178 = .ok (.iadd, 1) := by decide +kernel
theorem dX4_hole_179 : decode cX4_hole 179 = .ok (.istore 6, 2) := by decide +kernel
theorem dX4_hole_181 : decode cX4_hole 181 = .ok (.iinc 7 1, 3) := by decide +kernel
theorem dX4_hole_184 : decode cX4_hole 184 = .ok (.goto (-140), 3) := by decide +kernel
theorem dX4_hole_187 : decode cX4_hole 187 = .ok (.bipush (-6), 2) := by decide +kernel
theorem dX4_hole_189 : decode cX4_hole 189 = .ok (.ireturn, 1) := by decide +kernel
theorem dX4_common_0 : decode cX4_common 0 = .ok (.iload_n 0, 1) := by decide +kernel
theorem dX4_common_1 : decode cX4_common 1 = .ok (.istore_n 2, 1) := by decide +kernel
theorem dX4_common_2 : decode cX4_common 2 = .ok (.iload_n 1, 1) := by decide +kernel
theorem dX4_common_3 : decode cX4_common 3 = .ok (.istore_n 3, 1) := by decide +kernel
theorem dX4_common_4 : decode cX4_common 4 = .ok (.iconst 0, 1) := by decide +kernel
theorem dX4_common_5 : decode cX4_common 5 = .ok (.istore 4, 2) := by decide +kernel
theorem dX4_common_7 : decode cX4_common 7 = .ok (.iload 4, 2) := by decide +kernel
theorem dX4_common_9 : decode cX4_common 9 = .ok (.bipush 100, 2) := by decide +kernel
theorem dX4_common_11 : decode cX4_common 11 = .ok (.if_icmp .ge 23, 3) := by decide +kernel
theorem dX4_common_14 : decode cX4_common 14 = .ok (.iload_n 3, 1) := by decide +kernel
theorem dX4_common_15 : decode cX4_common 15 = .ok (.ifCond .eq 19, 3) := by decide +kernel
theorem dX4_common_18 : decode cX4_common 18 = .ok (.iload_n 2, 1) := by decide +kernel
theorem dX4_common_19 : decode cX4_common 19 = .ok (.iload_n 3, 1) := by decide +kernel
theorem dX4_common_20 : decode cX4_common 20 = .ok (.irem, 1) := by decide +kernel
theorem dX4_common_21 : decode cX4_common 21 = .ok (.istore 5, 2) := by decide +kernel
theorem dX4_common_23 : decode cX4_common 23 = .ok (.iload_n 3, 1) := by decide +kernel
theorem dX4_common_24 : decode cX4_common 24 = .ok (.istore_n 2, 1) := by decide +kernel
theorem dX4_common_25 : decode cX4_common 25 = .ok (.iload 5, 2) := by decide +kernel
theorem dX4_common_27 : decode cX4_common 27 = .ok (.istore_n 3, 1) := by decide +kernel
theorem dX4_common_28 : decode cX4_common 28 = .ok (.iinc 4 1, 3) := by decide +kernel
theorem dX4_common_31 : decode cX4_common 31 = .ok (.goto (-24), 3) := by decide +kernel
theorem dX4_common_34 : decode cX4_common 34 = .ok (.iload_n 2, 1) := by decide +kernel
theorem dX4_common_35 : decode cX4_common 35 = .ok (.ireturn, 1) := by decide +kernel
set_option maxRecDepth 20000 in
theorem ggX4_tally_X4_in : GoodIn wsX4_tally wsX4_in := goodIn_r _ [5] (by decide +kernel) (by decide +kernel)
set_option maxRecDepth 20000 in
theorem gX4_tally_X4_in : GoodIn wsX4_tally (va_wsS RX4 24 yX4_in wsX4_in) := goodIn_app (goodIn_of _ (by decide +kernel)) ggX4_tally_X4_in
set_option maxRecDepth 20000 in
theorem ggX4_tally_X4_of : GoodIn wsX4_tally wsX4_of := goodIn_r _ [9, 1, 10, 11, 4, 12, 16, 17, 18, 19, 20, 21, 22, 23] (by decide +kernel) (by decide +kernel)
set_option maxRecDepth 20000 in
theorem gX4_tally_X4_of : GoodIn wsX4_tally (wsV RX4 28 RX4 yX4_of wsX4_of) := goodIn_app (goodIn_of _ (by decide +kernel)) ggX4_tally_X4_of
set_option maxRecDepth 20000 in
theorem ggX4_tally_X4_common : GoodIn wsX4_tally wsX4_common := goodIn_r _ [15] (by decide +kernel) (by decide +kernel)
set_option maxRecDepth 20000 in
theorem gX4_tally_X4_common : GoodIn wsX4_tally (va_wsS RX4 124 yX4_common wsX4_common) := goodIn_app (goodIn_of _ (by decide +kernel)) ggX4_tally_X4_common
theorem dX4_tally_0 : decode cX4_tally 0 = .ok (.iload_n 1, 1) := by decide +kernel
theorem dX4_tally_1 : decode cX4_tally 1 = .ok (.iconst 0, 1) := by decide +kernel
theorem dX4_tally_2 : decode cX4_tally 2 = .ok (.iconst 2, 1) := by decide +kernel
theorem dX4_tally_3 : decode cX4_tally 3 = .ok (.invokestatic 24, 3) := by decide +kernel
theorem dX4_tally_6 : decode cX4_tally 6 = .ok (.ifCond .ne 5, 3) := by decide +kernel
theorem dX4_tally_9 : decode cX4_tally 9 = .ok (.iconst (-1), 1) := by decide +kernel
theorem dX4_tally_10 : decode cX4_tally 10 = .ok (.ireturn, 1) := by decide +kernel
theorem dX4_tally_11 : decode cX4_tally 11 = .ok (.iload_n 2, 1) := by decide +kernel
theorem dX4_tally_12 : decode cX4_tally 12 = .ok (.iconst 0, 1) := by decide +kernel
theorem dX4_tally_13 : decode cX4_tally 13 = .ok (.iconst 5, 1) := by decide +kernel
theorem dX4_tally_14 : decode cX4_tally 14 = .ok (.invokestatic 24, 3) := by decide +kernel
theorem dX4_tally_17 : decode cX4_tally 17 = .ok (.ifCond .ne 6, 3) := by decide +kernel
theorem dX4_tally_20 : decode cX4_tally 20 = .ok (.bipush (-2), 2) := by decide +kernel
theorem dX4_tally_22 : decode cX4_tally 22 = .ok (.ireturn, 1) := by decide +kernel
theorem dX4_tally_23 : decode cX4_tally 23 = .ok (.iconst 0, 1) := by decide +kernel
theorem dX4_tally_24 : decode cX4_tally 24 = .ok (.istore_n 3, 1) := by decide +kernel
theorem dX4_tally_25 : decode cX4_tally 25 = .ok (.iconst 0, 1) := by decide +kernel
theorem dX4_tally_26 : decode cX4_tally 26 = .ok (.istore 4, 2) := by decide +kernel
theorem dX4_tally_28 : decode cX4_tally 28 = .ok (.iconst 0, 1) := by decide +kernel
theorem dX4_tally_29 : decode cX4_tally 29 = .ok (.istore 5, 2) := by decide +kernel
theorem dX4_tally_31 : decode cX4_tally 31 = .ok (.iconst 0, 1) := by decide +kernel
theorem dX4_tally_32 : decode cX4_tally 32 = .ok (.istore 6, 2) := by decide +kernel
theorem dX4_tally_34 : decode cX4_tally 34 = .ok (.iconst 0, 1) := by decide +kernel
theorem dX4_tally_35 : decode cX4_tally 35 = .ok (.istore 7, 2) := by decide +kernel
theorem dX4_tally_37 : decode cX4_tally 37 = .ok (.iload 7, 2) := by decide +kernel
theorem dX4_tally_39 : decode cX4_tally 39 = .ok (.aload_n 0, 1) := by decide +kernel
theorem dX4_tally_40 : decode cX4_tally 40 = .ok (.getfield 7, 3) := by decide +kernel
theorem dX4_tally_43 : decode cX4_tally 43 = .ok (.bipush 10, 2) := by decide +kernel
theorem dX4_tally_45 : decode cX4_tally 45 = .ok (.iaload, 1) := by decide +kernel
theorem dX4_tally_46 : decode cX4_tally 46 = .ok (.if_icmp .ge 82, 3) := by decide +kernel
theorem dX4_tally_49 : decode cX4_tally 49 = .ok (.aload_n 0, 1) := by decide +kernel
theorem dX4_tally_50 : decode cX4_tally 50 = .ok (.iload 7, 2) := by decide +kernel
theorem dX4_tally_52 : decode cX4_tally 52 = .ok (.iconst 2, 1) := by decide +kernel
theorem dX4_tally_53 : decode cX4_tally 53 = .ok (.invokevirtual 28, 3) := by decide +kernel
theorem dX4_tally_56 : decode cX4_tally 56 = .ok (.iload_n 1, 1) := by decide +kernel
theorem dX4_tally_57 : decode cX4_tally 57 = .ok (.if_icmp .ne 65, 3) := by decide +kernel
theorem dX4_tally_60 : decode cX4_tally 60 = .ok (.aload_n 0, 1) := by decide +kernel
theorem dX4_tally_61 : decode cX4_tally 61 = .ok (.iload 7, 2) := by decide +kernel
theorem dX4_tally_63 : decode cX4_tally 63 = .ok (.bipush 6, 2) := by decide +kernel
theorem dX4_tally_65 : decode cX4_tally 65 = .ok (.invokevirtual 28, 3) := by decide +kernel
theorem dX4_tally_68 : decode cX4_tally 68 = .ok (.iconst 4, 1) := by decide +kernel
theorem dX4_tally_69 : decode cX4_tally 69 = .ok (.if_icmp .eq 53, 3) := by decide +kernel
theorem dX4_tally_72 : decode cX4_tally 72 = .ok (.iinc 3 1, 3) := by decide +kernel
theorem dX4_tally_75 : decode cX4_tally 75 = .ok (.iload 4, 2) := by decide +kernel
theorem dX4_tally_77 : decode cX4_tally 77 = .ok (.aload_n 0, 1) := by decide +kernel
theorem dX4_tally_78 : decode cX4_tally 78 = .ok (.iload 7, 2) := by decide +kernel
theorem dX4_tally_80 : decode cX4_tally 80 = .ok (.iconst 4, 1) := by decide +kernel
theorem dX4_tally_81 : decode cX4_tally 81 = .ok (.invokevirtual 28, 3) := by decide +kernel
theorem dX4_tally_84 : decode cX4_tally 84 = .ok (.iadd, 1) := by decide +kernel
theorem dX4_tally_85 : decode cX4_tally 85 = .ok (.istore 4, 2) := by decide +kernel
theorem dX4_tally_87 : decode cX4_tally 87 = .ok (.iload 5, 2) := by decide +kernel
theorem dX4_tally_89 : decode cX4_tally 89 = .ok (.aload_n 0, 1) := by decide +kernel
theorem dX4_tally_90 : decode cX4_tally 90 = .ok (.iload 7, 2) := by decide +kernel
theorem dX4_tally_92 : decode cX4_tally 92 = .ok (.bipush 9, 2) := by decide +kernel
theorem dX4_tally_94 : decode cX4_tally 94 = .ok (.invokevirtual 28, 3) := by decide +kernel
theorem dX4_tally_97 : decode cX4_tally 97 = .ok (.iadd, 1) := by decide +kernel
theorem dX4_tally_98 : decode cX4_tally 98 = .ok (.istore 5, 2) := by decide +kernel
theorem dX4_tally_100 : decode cX4_tally 100 = .ok (.iload 6, 2) := by decide +kernel
theorem dX4_tally_102 : decode cX4_tally 102 = .ok (.aload_n 0, 1) := by decide +kernel
theorem dX4_tally_103 : decode cX4_tally 103 = .ok (.iload 7, 2) := by decide +kernel
theorem dX4_tally_105 : decode cX4_tally 105 = .ok (.bipush 6, 2) := by decide +kernel
theorem dX4_tally_107 : decode cX4_tally 107 = .ok (.invokevirtual 28, 3) := by decide +kernel
theorem dX4_tally_110 : decode cX4_tally 110 = .ok (.iconst 3, 1) := by decide +kernel
theorem dX4_tally_111 : decode cX4_tally 111 = .ok (.if_icmp .ne 7, 3) := by decide +kernel
theorem dX4_tally_114 : decode cX4_tally 114 = .ok (.iconst 1, 1) := by decide +kernel
theorem dX4_tally_115 : decode cX4_tally 115 = .ok (.goto 4, 3) := by decide +kernel
theorem dX4_tally_118 : decode cX4_tally 118 = .ok (.iconst 0, 1) := by decide +kernel
theorem dX4_tally_119 : decode cX4_tally 119 = .ok (.iadd, 1) := by decide +kernel
theorem dX4_tally_120 : decode cX4_tally 120 = .ok (.istore 6, 2) := by decide +kernel
theorem dX4_tally_122 : decode cX4_tally 122 = .ok (.iinc 7 1, 3) := by decide +kernel
theorem dX4_tally_125 : decode cX4_tally 125 = .ok (.goto (-88), 3) := by decide +kernel
theorem dX4_tally_128 : decode cX4_tally 128 = .ok (.iload_n 2, 1) := by decide +kernel
theorem dX4_tally_129 : decode cX4_tally 129 = .ok (.iconst 4, 1) := by decide +kernel
theorem dX4_tally_130 : decode cX4_tally 130 = .ok (.if_icmp .ge 34, 3) := by decide +kernel
theorem dX4_tally_133 : decode cX4_tally 133 = .ok (.iload_n 2, 1) := by decide +kernel
theorem dX4_tally_134 : decode cX4_tally 134 = .ok (.ifCond .ne 7, 3) := by decide +kernel
theorem dX4_tally_137 : decode cX4_tally 137 = .ok (.iload_n 3, 1) := by decide +kernel
theorem dX4_tally_138 : decode cX4_tally 138 = .ok (.goto 25, 3) := by decide +kernel
theorem dX4_tally_141 : decode cX4_tally 141 = .ok (.iload_n 2, 1) := by decide +kernel
theorem dX4_tally_142 : decode cX4_tally 142 = .ok (.iconst 1, 1) := by decide +kernel
theorem dX4_tally_143 : decode cX4_tally 143 = .ok (.if_icmp .ne 8, 3) := by decide +kernel
theorem dX4_tally_146 : decode cX4_tally 146 = .ok (.iload 4, 2) := by decide +kernel
theorem dX4_tally_148 : decode cX4_tally 148 = .ok (.goto 15, 3) := by decide +kernel
theorem dX4_tally_151 : decode cX4_tally 151 = .ok (.iload_n 2, 1) := by decide +kernel
theorem dX4_tally_152 : decode cX4_tally 152 = .ok (.iconst 2, 1) := by decide +kernel
theorem dX4_tally_153 : decode cX4_tally 153 = .ok (.if_icmp .ne 8, 3) := by decide +kernel
theorem dX4_tally_156 : decode cX4_tally 156 = .ok (.iload 5, 2) := by decide +kernel
theorem dX4_tally_158 : decode cX4_tally 158 = .ok (.goto 5, 3) := by decide +kernel
theorem dX4_tally_161 : decode cX4_tally 161 = .ok (.iload 6, 2) := by decide +kernel
theorem dX4_tally_163 : decode cX4_tally 163 = .ok (.ireturn, 1) := by decide +kernel
theorem dX4_tally_164 : decode cX4_tally 164 = .ok (.iload 4, 2) := by decide +kernel
theorem dX4_tally_166 : decode cX4_tally 166 = .ok (.iload 5, 2) := by decide +kernel
theorem dX4_tally_168 : decode cX4_tally 168 = .ok (.isub, 1) := by decide +kernel
theorem dX4_tally_169 : decode cX4_tally 169 = .ok (.iload 4, 2) := by decide +kernel
theorem dX4_tally_171 : decode cX4_tally 171 = .ok (.invokestatic 124, 3) := by decide +kernel
theorem dX4_tally_174 : decode cX4_tally 174 = .ok (.istore 7, 2) := by decide +kernel
theorem dX4_tally_176 : decode cX4_tally 176 = .ok (.iload 4, 2) := by decide +kernel
theorem dX4_tally_178 : decode cX4_tally 178 = .ok (.ifCond .ne 8, 3) := by decide +kernel
theorem dX4_tally_181 : decode cX4_tally 181 = .ok (.bipush (-6), 2) := by decide +kernel
theorem dX4_tally_183 : decode cX4_tally 183 = .ok (.goto 24, 3) := by decide +kernel
theorem dX4_tally_186 : decode cX4_tally 186 = .ok (.iload_n 2, 1) := by decide +kernel
theorem dX4_tally_187 : decode cX4_tally 187 = .ok (.iconst 4, 1) := by decide +kernel
theorem dX4_tally_188 : decode cX4_tally 188 = .ok (.if_icmp .ne 14, 3) := by decide +kernel
theorem dX4_tally_191 : decode cX4_tally 191 = .ok (.iload 4, 2) := by decide +kernel
theorem dX4_tally_193 : decode cX4_tally 193 = .ok (.iload 5, 2) := by decide +kernel
theorem dX4_tally_195 : decode cX4_tally 195 = .ok (.isub, 1) := by decide +kernel
theorem dX4_tally_196 : decode cX4_tally 196 = .ok (.iload 7, 2) := by decide +kernel
theorem dX4_tally_198 : decode cX4_tally 198 = .ok (.idiv, 1) := by decide +kernel
theorem dX4_tally_199 : decode cX4_tally 199 = .ok (.goto 8, 3) := by decide +kernel
theorem dX4_tally_202 : decode cX4_tally 202 = .ok (.iload 4, 2) := by decide +kernel
theorem dX4_tally_204 : decode cX4_tally 204 = .ok (.iload 7, 2) := by decide +kernel
theorem dX4_tally_206 : decode cX4_tally 206 = .ok (.idiv, 1) := by decide +kernel
theorem dX4_tally_207 : decode cX4_tally 207 = .ok (.ireturn, 1) := by decide +kernel
set_option maxRecDepth 20000 in
theorem ggX4_ofFate_X4_of : GoodIn wsX4_ofFate wsX4_of := goodIn_r _ [6, 1, 7, 8, 5, 9, 10, 11, 12, 13, 14, 15, 16, 17] (by decide +kernel) (by decide +kernel)
set_option maxRecDepth 20000 in
theorem gX4_ofFate_X4_of : GoodIn wsX4_ofFate (wsV RX4 28 RX4 yX4_of wsX4_of) := goodIn_app (goodIn_of _ (by decide +kernel)) ggX4_ofFate_X4_of
theorem dX4_ofFate_0 : decode cX4_ofFate 0 = .ok (.iconst 0, 1) := by decide +kernel
theorem dX4_ofFate_1 : decode cX4_ofFate 1 = .ok (.istore_n 2, 1) := by decide +kernel
theorem dX4_ofFate_2 : decode cX4_ofFate 2 = .ok (.iconst 0, 1) := by decide +kernel
theorem dX4_ofFate_3 : decode cX4_ofFate 3 = .ok (.istore_n 3, 1) := by decide +kernel
theorem dX4_ofFate_4 : decode cX4_ofFate 4 = .ok (.iload_n 3, 1) := by decide +kernel
theorem dX4_ofFate_5 : decode cX4_ofFate 5 = .ok (.aload_n 0, 1) := by decide +kernel
theorem dX4_ofFate_6 : decode cX4_ofFate 6 = .ok (.getfield 7, 3) := by decide +kernel
theorem dX4_ofFate_9 : decode cX4_ofFate 9 = .ok (.bipush 10, 2) := by decide +kernel
theorem dX4_ofFate_11 : decode cX4_ofFate 11 = .ok (.iaload, 1) := by decide +kernel
theorem dX4_ofFate_12 : decode cX4_ofFate 12 = .ok (.if_icmp .ge 28, 3) := by decide +kernel
theorem dX4_ofFate_15 : decode cX4_ofFate 15 = .ok (.iload_n 2, 1) := by decide +kernel
theorem dX4_ofFate_16 : decode cX4_ofFate 16 = .ok (.aload_n 0, 1) := by decide +kernel
theorem dX4_ofFate_17 : decode cX4_ofFate 17 = .ok (.iload_n 3, 1) := by decide +kernel
theorem dX4_ofFate_18 : decode cX4_ofFate 18 = .ok (.bipush 6, 2) := by decide +kernel
theorem dX4_ofFate_20 : decode cX4_ofFate 20 = .ok (.invokevirtual 28, 3) := by decide +kernel
theorem dX4_ofFate_23 : decode cX4_ofFate 23 = .ok (.iload_n 1, 1) := by decide +kernel
theorem dX4_ofFate_24 : decode cX4_ofFate 24 = .ok (.if_icmp .ne 7, 3) := by decide +kernel
theorem dX4_ofFate_27 : decode cX4_ofFate 27 = .ok (.iconst 1, 1) := by decide +kernel
theorem dX4_ofFate_28 : decode cX4_ofFate 28 = .ok (.goto 4, 3) := by decide +kernel
theorem dX4_ofFate_31 : decode cX4_ofFate 31 = .ok (.iconst 0, 1) := by decide +kernel
theorem dX4_ofFate_32 : decode cX4_ofFate 32 = .ok (.iadd, 1) := by decide +kernel
theorem dX4_ofFate_33 : decode cX4_ofFate 33 = .ok (.istore_n 2, 1) := by decide +kernel
theorem dX4_ofFate_34 : decode cX4_ofFate 34 = .ok (.iinc 3 1, 3) := by decide +kernel
theorem dX4_ofFate_37 : decode cX4_ofFate 37 = .ok (.goto (-33), 3) := by decide +kernel
theorem dX4_ofFate_40 : decode cX4_ofFate 40 = .ok (.iload_n 2, 1) := by decide +kernel
theorem dX4_ofFate_41 : decode cX4_ofFate 41 = .ok (.ireturn, 1) := by decide +kernel
set_option maxRecDepth 20000 in
theorem ggX4_count_X4_in : GoodIn wsX4_count wsX4_in := goodIn_r _ [6] (by decide +kernel) (by decide +kernel)
set_option maxRecDepth 20000 in
theorem gX4_count_X4_in : GoodIn wsX4_count (va_wsS RX4 24 yX4_in wsX4_in) := goodIn_app (goodIn_of _ (by decide +kernel)) ggX4_count_X4_in
set_option maxRecDepth 20000 in
theorem ggX4_count_X4_ofFate : GoodIn wsX4_count wsX4_ofFate := goodIn_r _ [10, 1, 11, 12, 13, 5, 14, 15, 16, 17, 18, 19, 20, 21, 22, 23, 24, 25] (by decide +kernel) (by decide +kernel)
set_option maxRecDepth 20000 in
theorem gX4_count_X4_ofFate : GoodIn wsX4_count (wsV RX4 127 RX4 yX4_ofFate wsX4_ofFate) := goodIn_app (goodIn_of _ (by decide +kernel)) ggX4_count_X4_ofFate
theorem dX4_count_0 : decode cX4_count 0 = .ok (.iload_n 1, 1) := by decide +kernel
theorem dX4_count_1 : decode cX4_count 1 = .ok (.iconst 2, 1) := by decide +kernel
theorem dX4_count_2 : decode cX4_count 2 = .ok (.bipush 6, 2) := by decide +kernel
theorem dX4_count_4 : decode cX4_count 4 = .ok (.invokestatic 24, 3) := by decide +kernel
theorem dX4_count_7 : decode cX4_count 7 = .ok (.ifCond .eq 11, 3) := by decide +kernel
theorem dX4_count_10 : decode cX4_count 10 = .ok (.aload_n 0, 1) := by decide +kernel
theorem dX4_count_11 : decode cX4_count 11 = .ok (.iload_n 1, 1) := by decide +kernel
theorem dX4_count_12 : decode cX4_count 12 = .ok (.iconst 2, 1) := by decide +kernel
theorem dX4_count_13 : decode cX4_count 13 = .ok (.isub, 1) := by decide +kernel
theorem dX4_count_14 : decode cX4_count 14 = .ok (.invokevirtual 127, 3) := by decide +kernel
theorem dX4_count_17 : decode cX4_count 17 = .ok (.ireturn, 1) := by decide +kernel
theorem dX4_count_18 : decode cX4_count 18 = .ok (.iload_n 1, 1) := by decide +kernel
theorem dX4_count_19 : decode cX4_count 19 = .ok (.bipush 10, 2) := by decide +kernel
theorem dX4_count_21 : decode cX4_count 21 = .ok (.bipush 15, 2) := by decide +kernel
theorem dX4_count_23 : decode cX4_count 23 = .ok (.invokestatic 24, 3) := by decide +kernel
theorem dX4_count_26 : decode cX4_count 26 = .ok (.ifCond .eq 13, 3) := by decide +kernel
theorem dX4_count_29 : decode cX4_count 29 = .ok (.aload_n 0, 1) := by decide +kernel
theorem dX4_count_30 : decode cX4_count 30 = .ok (.getfield 7, 3) := by decide +kernel
theorem dX4_count_33 : decode cX4_count 33 = .ok (.iload_n 1, 1) := by decide +kernel
theorem dX4_count_34 : decode cX4_count 34 = .ok (.bipush 10, 2) := by decide +kernel
theorem dX4_count_36 : decode cX4_count 36 = .ok (.isub, 1) := by decide +kernel
theorem dX4_count_37 : decode cX4_count 37 = .ok (.iaload, 1) := by decide +kernel
theorem dX4_count_38 : decode cX4_count 38 = .ok (.ireturn, 1) := by decide +kernel
theorem dX4_count_39 : decode cX4_count 39 = .ok (.iload_n 1, 1) := by decide +kernel
theorem dX4_count_40 : decode cX4_count 40 = .ok (.bipush 20, 2) := by decide +kernel
theorem dX4_count_42 : decode cX4_count 42 = .ok (.bipush 22, 2) := by decide +kernel
theorem dX4_count_44 : decode cX4_count 44 = .ok (.invokestatic 24, 3) := by decide +kernel
theorem dX4_count_47 : decode cX4_count 47 = .ok (.ifCond .eq 16, 3) := by decide +kernel
theorem dX4_count_50 : decode cX4_count 50 = .ok (.aload_n 0, 1) := by decide +kernel
theorem dX4_count_51 : decode cX4_count 51 = .ok (.getfield 7, 3) := by decide +kernel
theorem dX4_count_54 : decode cX4_count 54 = .ok (.bipush 6, 2) := by decide +kernel
theorem dX4_count_56 : decode cX4_count 56 = .ok (.iload_n 1, 1) := by decide +kernel
theorem dX4_count_57 : decode cX4_count 57 = .ok (.iadd, 1) := by decide +kernel
theorem dX4_count_58 : decode cX4_count 58 = .ok (.bipush 20, 2) := by decide +kernel
theorem dX4_count_60 : decode cX4_count 60 = .ok (.isub, 1) := by decide +kernel
theorem dX4_count_61 : decode cX4_count 61 = .ok (.iaload, 1) := by decide +kernel
theorem dX4_count_62 : decode cX4_count 62 = .ok (.ireturn, 1) := by decide +kernel
theorem dX4_count_63 : decode cX4_count 63 = .ok (.iload_n 1, 1) := by decide +kernel
theorem dX4_count_64 : decode cX4_count 64 = .ok (.tableswitch 126 0 9 #[56, 64, 126, 126, 126, 126, 126, 72, 90, 96], 56) := by decide +kernel
theorem dX4_count_120 : decode cX4_count 120 = .ok (.aload_n 0, 1) := by decide +kernel
theorem dX4_count_121 : decode cX4_count 121 = .ok (.getfield 7, 3) := by decide +kernel
theorem dX4_count_124 : decode cX4_count 124 = .ok (.bipush 9, 2) := by decide +kernel
theorem dX4_count_126 : decode cX4_count 126 = .ok (.iaload, 1) := by decide +kernel
theorem dX4_count_127 : decode cX4_count 127 = .ok (.ireturn, 1) := by decide +kernel
theorem dX4_count_128 : decode cX4_count 128 = .ok (.aload_n 0, 1) := by decide +kernel
theorem dX4_count_129 : decode cX4_count 129 = .ok (.getfield 7, 3) := by decide +kernel
theorem dX4_count_132 : decode cX4_count 132 = .ok (.bipush 10, 2) := by decide +kernel
theorem dX4_count_134 : decode cX4_count 134 = .ok (.iaload, 1) := by decide +kernel
theorem dX4_count_135 : decode cX4_count 135 = .ok (.ireturn, 1) := by decide +kernel
theorem dX4_count_136 : decode cX4_count 136 = .ok (.aload_n 0, 1) := by decide +kernel
theorem dX4_count_137 : decode cX4_count 137 = .ok (.iconst 0, 1) := by decide +kernel
theorem dX4_count_138 : decode cX4_count 138 = .ok (.invokevirtual 127, 3) := by decide +kernel
theorem dX4_count_141 : decode cX4_count 141 = .ok (.aload_n 0, 1) := by decide +kernel
theorem dX4_count_142 : decode cX4_count 142 = .ok (.iconst 1, 1) := by decide +kernel
theorem dX4_count_143 : decode cX4_count 143 = .ok (.invokevirtual 127, 3) := by decide +kernel
theorem dX4_count_146 : decode cX4_count 146 = .ok (.iadd, 1) := by decide +kernel
theorem dX4_count_147 : decode cX4_count 147 = .ok (.aload_n 0, 1) := by decide +kernel
theorem dX4_count_148 : decode cX4_count 148 = .ok (.iconst 2, 1) := by decide +kernel
theorem dX4_count_149 : decode cX4_count 149 = .ok (.invokevirtual 127, 3) := by decide +kernel
theorem dX4_count_152 : decode cX4_count 152 = .ok (.iadd, 1) := by decide +kernel
theorem dX4_count_153 : decode cX4_count 153 = .ok (.ireturn, 1) := by decide +kernel
theorem dX4_count_154 : decode cX4_count 154 = .ok (.aload_n 0, 1) := by decide +kernel
theorem dX4_count_155 : decode cX4_count 155 = .ok (.iconst 1, 1) := by decide +kernel
theorem dX4_count_156 : decode cX4_count 156 = .ok (.invokevirtual 127, 3) := by decide +kernel
theorem dX4_count_159 : decode cX4_count 159 = .ok (.ireturn, 1) := by decide +kernel
theorem dX4_count_160 : decode cX4_count 160 = .ok (.aload_n 0, 1) := by decide +kernel
theorem dX4_count_161 : decode cX4_count 161 = .ok (.getfield 16, 3) := by decide +kernel
theorem dX4_count_164 : decode cX4_count 164 = .ok (.iconst 0, 1) := by decide +kernel
theorem dX4_count_165 : decode cX4_count 165 = .ok (.baload, 1) := by decide +kernel
theorem dX4_count_166 : decode cX4_count 166 = .ok (.ifCond .eq 7, 3) := by decide +kernel
theorem dX4_count_169 : decode cX4_count 169 = .ok (.iconst 1, 1) := by decide +kernel
theorem dX4_count_170 : decode cX4_count 170 = .ok (.goto 4, 3) := by decide +kernel
theorem dX4_count_173 : decode cX4_count 173 = .ok (.iconst 0, 1) := by decide +kernel
theorem dX4_count_174 : decode cX4_count 174 = .ok (.aload_n 0, 1) := by decide +kernel
theorem dX4_count_175 : decode cX4_count 175 = .ok (.getfield 16, 3) := by decide +kernel
theorem dX4_count_178 : decode cX4_count 178 = .ok (.iconst 1, 1) := by decide +kernel
theorem dX4_count_179 : decode cX4_count 179 = .ok (.baload, 1) := by decide +kernel
theorem dX4_count_180 : decode cX4_count 180 = .ok (.ifCond .eq 7, 3) := by decide +kernel
theorem dX4_count_183 : decode cX4_count 183 = .ok (.iconst 2, 1) := by decide +kernel
theorem dX4_count_184 : decode cX4_count 184 = .ok (.goto 4, 3) := by decide +kernel
theorem dX4_count_187 : decode cX4_count 187 = .ok (.iconst 0, 1) := by decide +kernel
theorem dX4_count_188 : decode cX4_count 188 = .ok (.iadd, 1) := by decide +kernel
theorem dX4_count_189 : decode cX4_count 189 = .ok (.ireturn, 1) := by decide +kernel
theorem dX4_count_190 : decode cX4_count 190 = .ok (.bipush (-2), 2) := by decide +kernel
theorem dX4_count_192 : decode cX4_count 192 = .ok (.ireturn, 1) := by decide +kernel
set_option maxRecDepth 20000 in
theorem ggX4_image_X4_in : GoodIn wsX4_image wsX4_in := goodIn_r _ [7] (by decide +kernel) (by decide +kernel)
set_option maxRecDepth 20000 in
theorem gX4_image_X4_in : GoodIn wsX4_image (va_wsS RX4 24 yX4_in wsX4_in) := goodIn_app (goodIn_of _ (by decide +kernel)) ggX4_image_X4_in
theorem dX4_image_0 : decode cX4_image 0 = .ok (.iload_n 1, 1) := by decide +kernel
theorem dX4_image_1 : decode cX4_image 1 = .ok (.iconst 0, 1) := by decide +kernel
theorem dX4_image_2 : decode cX4_image 2 = .ok (.iconst 1, 1) := by decide +kernel
theorem dX4_image_3 : decode cX4_image 3 = .ok (.invokestatic 24, 3) := by decide +kernel
theorem dX4_image_6 : decode cX4_image 6 = .ok (.ifCond .ne 6, 3) := by decide +kernel
theorem dX4_image_9 : decode cX4_image 9 = .ok (.bipush (-2), 2) := by decide +kernel
theorem dX4_image_11 : decode cX4_image 11 = .ok (.ireturn, 1) := by decide +kernel
theorem dX4_image_12 : decode cX4_image 12 = .ok (.iconst 0, 1) := by decide +kernel
theorem dX4_image_13 : decode cX4_image 13 = .ok (.istore_n 2, 1) := by decide +kernel
theorem dX4_image_14 : decode cX4_image 14 = .ok (.iload_n 2, 1) := by decide +kernel
theorem dX4_image_15 : decode cX4_image 15 = .ok (.sipush 539, 3) := by decide +kernel
theorem dX4_image_18 : decode cX4_image 18 = .ok (.if_icmp .ge 27, 3) := by decide +kernel
theorem dX4_image_21 : decode cX4_image 21 = .ok (.aload_n 0, 1) := by decide +kernel
theorem dX4_image_22 : decode cX4_image 22 = .ok (.getfield 13, 3) := by decide +kernel
theorem dX4_image_25 : decode cX4_image 25 = .ok (.sipush 539, 3) := by decide +kernel
theorem dX4_image_28 : decode cX4_image 28 = .ok (.iload_n 1, 1) := by decide +kernel
theorem dX4_image_29 : decode cX4_image 29 = .ok (.imul, 1) := by decide +kernel
theorem dX4_image_30 : decode cX4_image 30 = .ok (.iload_n 2, 1) := by decide +kernel
theorem dX4_image_31 : decode cX4_image 31 = .ok (.iadd, 1) := by decide +kernel
theorem dX4_image_32 : decode cX4_image 32 = .ok (.aload_n 0, 1) := by decide +kernel
theorem dX4_image_33 : decode cX4_image 33 = .ok (.getfield 7, 3) := by decide +kernel
theorem dX4_image_36 : decode cX4_image 36 = .ok (.iload_n 2, 1) := by decide +kernel
theorem dX4_image_37 : decode cX4_image 37 = .ok (.iaload, 1) := by decide +kernel
theorem dX4_image_38 : decode cX4_image 38 = .ok (.iastore, 1) := by decide +kernel
theorem dX4_image_39 : decode cX4_image 39 = .ok (.iinc 2 1, 3) := by decide +kernel
theorem dX4_image_42 : decode cX4_image 42 = .ok (.goto (-28), 3) := by decide +kernel
theorem dX4_image_45 : decode cX4_image 45 = .ok (.aload_n 0, 1) := by decide +kernel
theorem dX4_image_46 : decode cX4_image 46 = .ok (.getfield 16, 3) := by decide +kernel
theorem dX4_image_49 : decode cX4_image 49 = .ok (.iload_n 1, 1) := by decide +kernel
theorem dX4_image_50 : decode cX4_image 50 = .ok (.iconst 1, 1) := by decide +kernel
theorem dX4_image_51 : decode cX4_image 51 = .ok (.bastore, 1) := by decide +kernel
theorem dX4_image_52 : decode cX4_image 52 = .ok (.iconst 1, 1) := by decide +kernel
theorem dX4_image_53 : decode cX4_image 53 = .ok (.ireturn, 1) := by decide +kernel
set_option maxRecDepth 20000 in
theorem ggX4_restore_X4_in : GoodIn wsX4_restore wsX4_in := goodIn_r _ [7] (by decide +kernel) (by decide +kernel)
set_option maxRecDepth 20000 in
theorem gX4_restore_X4_in : GoodIn wsX4_restore (va_wsS RX4 24 yX4_in wsX4_in) := goodIn_app (goodIn_of _ (by decide +kernel)) ggX4_restore_X4_in
theorem dX4_restore_0 : decode cX4_restore 0 = .ok (.iload_n 1, 1) := by decide +kernel
theorem dX4_restore_1 : decode cX4_restore 1 = .ok (.iconst 0, 1) := by decide +kernel
theorem dX4_restore_2 : decode cX4_restore 2 = .ok (.iconst 1, 1) := by decide +kernel
theorem dX4_restore_3 : decode cX4_restore 3 = .ok (.invokestatic 24, 3) := by decide +kernel
theorem dX4_restore_6 : decode cX4_restore 6 = .ok (.ifCond .ne 6, 3) := by decide +kernel
theorem dX4_restore_9 : decode cX4_restore 9 = .ok (.bipush (-2), 2) := by decide +kernel
theorem dX4_restore_11 : decode cX4_restore 11 = .ok (.ireturn, 1) := by decide +kernel
theorem dX4_restore_12 : decode cX4_restore 12 = .ok (.aload_n 0, 1) := by decide +kernel
theorem dX4_restore_13 : decode cX4_restore 13 = .ok (.getfield 16, 3) := by decide +kernel
theorem dX4_restore_16 : decode cX4_restore 16 = .ok (.iload_n 1, 1) := by decide +kernel
theorem dX4_restore_17 : decode cX4_restore 17 = .ok (.baload, 1) := by decide +kernel
theorem dX4_restore_18 : decode cX4_restore 18 = .ok (.ifCond .ne 6, 3) := by decide +kernel
theorem dX4_restore_21 : decode cX4_restore 21 = .ok (.bipush (-3), 2) := by decide +kernel
theorem dX4_restore_23 : decode cX4_restore 23 = .ok (.ireturn, 1) := by decide +kernel
theorem dX4_restore_24 : decode cX4_restore 24 = .ok (.iconst 0, 1) := by decide +kernel
theorem dX4_restore_25 : decode cX4_restore 25 = .ok (.istore_n 2, 1) := by decide +kernel
theorem dX4_restore_26 : decode cX4_restore 26 = .ok (.iload_n 2, 1) := by decide +kernel
theorem dX4_restore_27 : decode cX4_restore 27 = .ok (.sipush 539, 3) := by decide +kernel
theorem dX4_restore_30 : decode cX4_restore 30 = .ok (.if_icmp .ge 27, 3) := by decide +kernel
theorem dX4_restore_33 : decode cX4_restore 33 = .ok (.aload_n 0, 1) := by decide +kernel
theorem dX4_restore_34 : decode cX4_restore 34 = .ok (.getfield 7, 3) := by decide +kernel
theorem dX4_restore_37 : decode cX4_restore 37 = .ok (.iload_n 2, 1) := by decide +kernel
theorem dX4_restore_38 : decode cX4_restore 38 = .ok (.aload_n 0, 1) := by decide +kernel
theorem dX4_restore_39 : decode cX4_restore 39 = .ok (.getfield 13, 3) := by decide +kernel
theorem dX4_restore_42 : decode cX4_restore 42 = .ok (.sipush 539, 3) := by decide +kernel
theorem dX4_restore_45 : decode cX4_restore 45 = .ok (.iload_n 1, 1) := by decide +kernel
theorem dX4_restore_46 : decode cX4_restore 46 = .ok (.imul, 1) := by decide +kernel
theorem dX4_restore_47 : decode cX4_restore 47 = .ok (.iload_n 2, 1) := by decide +kernel
theorem dX4_restore_48 : decode cX4_restore 48 = .ok (.iadd, 1) := by decide +kernel
theorem dX4_restore_49 : decode cX4_restore 49 = .ok (.iaload, 1) := by decide +kernel
theorem dX4_restore_50 : decode cX4_restore 50 = .ok (.iastore, 1) := by decide +kernel
theorem dX4_restore_51 : decode cX4_restore 51 = .ok (.iinc 2 1, 3) := by decide +kernel
theorem dX4_restore_54 : decode cX4_restore 54 = .ok (.goto (-28), 3) := by decide +kernel
theorem dX4_restore_57 : decode cX4_restore 57 = .ok (.iconst 1, 1) := by decide +kernel
theorem dX4_restore_58 : decode cX4_restore 58 = .ok (.ireturn, 1) := by decide +kernel
end
section
theorem dJ9_abs_0f7a4_0 : decode cJ9_abs_0f7a4 0 = .ok (.iload_n 0, 1) := by decide +kernel
theorem dJ9_abs_0f7a4_1 : decode cJ9_abs_0f7a4 1 = .ok (.ifCond .ge 8, 3) := by decide +kernel
theorem dJ9_abs_0f7a4_4 : decode cJ9_abs_0f7a4 4 = .ok (.iload_n 0, 1) := by decide +kernel
theorem dJ9_abs_0f7a4_5 : decode cJ9_abs_0f7a4 5 = .ok (.ineg, 1) := by decide +kernel
theorem dJ9_abs_0f7a4_6 : decode cJ9_abs_0f7a4 6 = .ok (.goto 4, 3) := by decide +kernel
theorem dJ9_abs_0f7a4_9 : decode cJ9_abs_0f7a4 9 = .ok (.iload_n 0, 1) := by decide +kernel
theorem dJ9_abs_0f7a4_10 : decode cJ9_abs_0f7a4 10 = .ok (.ireturn, 1) := by decide +kernel
theorem dJ9_max_7cf53_0 : decode cJ9_max_7cf53 0 = .ok (.iload_n 0, 1) := by decide +kernel
theorem dJ9_max_7cf53_1 : decode cJ9_max_7cf53 1 = .ok (.iload_n 1, 1) := by decide +kernel
theorem dJ9_max_7cf53_2 : decode cJ9_max_7cf53 2 = .ok (.if_icmp .lt 7, 3) := by decide +kernel
theorem dJ9_max_7cf53_5 : decode cJ9_max_7cf53 5 = .ok (.iload_n 0, 1) := by decide +kernel
theorem dJ9_max_7cf53_6 : decode cJ9_max_7cf53 6 = .ok (.goto 4, 3) := by decide +kernel
theorem dJ9_max_7cf53_9 : decode cJ9_max_7cf53 9 = .ok (.iload_n 1, 1) := by decide +kernel
theorem dJ9_max_7cf53_10 : decode cJ9_max_7cf53 10 = .ok (.ireturn, 1) := by decide +kernel
theorem dJ9_min_7cf53_0 : decode cJ9_min_7cf53 0 = .ok (.iload_n 0, 1) := by decide +kernel
theorem dJ9_min_7cf53_1 : decode cJ9_min_7cf53 1 = .ok (.iload_n 1, 1) := by decide +kernel
theorem dJ9_min_7cf53_2 : decode cJ9_min_7cf53 2 = .ok (.if_icmp .gt 7, 3) := by decide +kernel
theorem dJ9_min_7cf53_5 : decode cJ9_min_7cf53 5 = .ok (.iload_n 0, 1) := by decide +kernel
theorem dJ9_min_7cf53_6 : decode cJ9_min_7cf53 6 = .ok (.goto 4, 3) := by decide +kernel
theorem dJ9_min_7cf53_9 : decode cJ9_min_7cf53 9 = .ok (.iload_n 1, 1) := by decide +kernel
theorem dJ9_min_7cf53_10 : decode cJ9_min_7cf53 10 = .ok (.ireturn, 1) := by decide +kernel
set_option maxRecDepth 20000 in
theorem ggL_law_X3_init : GoodIn wsL_law wsX3_init := goodIn_r _ [8, 9, 10, 11, 12, 13, 14, 15, 16, 17, 18, 19, 20, 21, 22, 23, 24, 25, 26, 27, 28, 29, 30, 31, 32, 33, 34, 35, 36, 37, 38, 39, 40, 41, 42, 43, 44, 45, 46, 47, 48, 49, 50, 51, 52, 53, 54, 55, 56, 57, 58, 59, 60, 61, 62, 518, 519, 520, 521, 522, 504, 505, 506, 507, 508, 509, 523, 524, 525, 526, 527, 528, 529, 530, 531, 532, 533, 534, 535, 536, 537] (by decide +kernel) (by decide +kernel)
set_option maxRecDepth 20000 in
theorem gL_law_X3_init : GoodIn wsL_law (wsX3_init) := ggL_law_X3_init
set_option maxRecDepth 20000 in
theorem ggL_law_X4_init : GoodIn wsL_law wsX4_init := goodIn_r _ [65, 66, 10, 11, 39, 67, 68, 69, 70, 510, 511, 512, 513, 514, 515, 516, 517] (by decide +kernel) (by decide +kernel)
set_option maxRecDepth 20000 in
theorem gL_law_X4_init : GoodIn wsL_law (wsX4_init) := ggL_law_X4_init
set_option maxRecDepth 20000 in
theorem ggL_law_X3_rule : GoodIn wsL_law wsX3_rule := goodIn_r _ [74, 75, 76, 15, 77, 78, 2, 79, 504, 505, 506, 507, 508, 509, 518, 519, 520, 521, 522] (by decide +kernel) (by decide +kernel)
set_option maxRecDepth 20000 in
theorem gL_law_X3_rule : GoodIn wsL_law (wsV RL 13 RX3 yX3_rule wsX3_rule) := goodIn_app (goodIn_of _ (by decide +kernel)) ggL_law_X3_rule
set_option maxRecDepth 20000 in
theorem ggL_law_X4_rule : GoodIn wsL_law wsX4_rule := goodIn_r _ [83, 67, 84, 85, 5, 86, 510, 511, 512, 513, 514, 515, 516, 517] (by decide +kernel) (by decide +kernel)
set_option maxRecDepth 20000 in
theorem gL_law_X4_rule : GoodIn wsL_law (wsV RL 17 RX4 yX4_rule wsX4_rule) := goodIn_app (goodIn_of _ (by decide +kernel)) ggL_law_X4_rule
set_option maxRecDepth 20000 in
theorem ggL_law_X3_line : GoodIn wsL_law wsX3_line := goodIn_r _ [90, 15, 22, 77, 78, 2, 79, 91, 92, 93, 94, 14, 95, 96, 31, 97, 21, 98, 99, 45, 100, 101, 102, 103, 41, 104, 105, 106, 47, 46, 48, 107, 108, 109, 110, 111, 112, 113, 504, 505, 506, 507, 508, 509, 518, 519, 520, 521, 522, 523, 524, 525, 526] (by decide +kernel) (by decide +kernel)
set_option maxRecDepth 20000 in
theorem gL_law_X3_line : GoodIn wsL_law (wsV RL 18 RX3 yX3_line wsX3_line) := goodIn_app (goodIn_of _ (by decide +kernel)) ggL_law_X3_line
set_option maxRecDepth 20000 in
theorem ggL_law_X4_line : GoodIn wsL_law wsX4_line := goodIn_r _ [117, 67, 84, 85, 5, 86, 118, 119, 120, 121, 122, 123, 124, 125, 126, 127, 128, 510, 511, 512, 513, 514, 515, 516, 517] (by decide +kernel) (by decide +kernel)
set_option maxRecDepth 20000 in
theorem gL_law_X4_line : GoodIn wsL_law (wsV RL 21 RX4 yX4_line wsX4_line) := goodIn_app (goodIn_of _ (by decide +kernel)) ggL_law_X4_line
set_option maxRecDepth 20000 in
theorem ggL_law_X3_pass : GoodIn wsL_law wsX3_pass := goodIn_r _ [132, 15, 91, 92, 2, 93, 504, 505, 506, 507, 508, 509, 518, 519, 520, 521, 522] (by decide +kernel) (by decide +kernel)
set_option maxRecDepth 20000 in
theorem gL_law_X3_pass : GoodIn wsL_law (wsV RL 22 RX3 yX3_pass wsX3_pass) := goodIn_app (goodIn_of _ (by decide +kernel)) ggL_law_X3_pass
set_option maxRecDepth 20000 in
theorem ggL_law_X4_pass : GoodIn wsL_law wsX4_pass := goodIn_r _ [136, 67, 84, 85, 5, 86, 510, 511, 512, 513, 514, 515, 516, 517] (by decide +kernel) (by decide +kernel)
set_option maxRecDepth 20000 in
theorem gL_law_X4_pass : GoodIn wsL_law (wsV RL 26 RX4 yX4_pass wsX4_pass) := goodIn_app (goodIn_of _ (by decide +kernel)) ggL_law_X4_pass
set_option maxRecDepth 20000 in
theorem ggL_law_X3_tell : GoodIn wsL_law wsX3_tell := goodIn_r _ [140, 15, 26, 141, 142, 2, 143, 144, 145, 146, 77, 78, 79, 91, 92, 93, 147, 14, 148, 149, 30, 150, 151, 152, 153, 38, 154, 25, 155, 156, 52, 53, 54, 55, 56, 61, 157, 158, 159, 160, 57, 58, 59, 60, 161, 162, 163, 164, 165, 166, 167, 168, 62, 169, 170, 171, 172, 173, 174, 175, 176, 177, 178, 179, 31, 97, 21, 98, 99, 45, 100, 101, 102, 103, 41, 104, 105, 106, 47, 46, 48, 180, 181, 182, 183, 184, 185, 186, 187, 188, 189, 190, 191, 192, 193, 194, 195, 196, 197, 198, 199, 200, 201, 202, 203, 204, 205, 206, 207, 208, 209, 210, 40, 211, 212, 213, 214, 94, 95, 96, 215, 216, 217, 218, 219, 220, 221, 222, 223, 224, 225, 226, 227, 504, 505, 506, 507, 508, 509, 518, 519, 520, 521, 522, 527, 528, 529, 530, 531, 532, 533, 534, 535, 536, 537, 523, 524, 525, 526] (by decide +kernel) (by decide +kernel)
set_option maxRecDepth 20000 in
theorem gL_law_X3_tell : GoodIn wsL_law (wsV RL 27 RX3 yX3_tell wsX3_tell) := goodIn_app (goodIn_of _ (by decide +kernel)) ggL_law_X3_tell
set_option maxRecDepth 20000 in
theorem ggL_law_X4_tell : GoodIn wsL_law wsX4_tell := goodIn_r _ [231, 67, 232, 233, 234, 235, 236, 237, 238, 5, 239, 240, 241, 242, 84, 85, 86, 243, 244, 245, 246, 247, 248, 249, 250, 251, 252, 253, 254, 255, 256, 257, 258, 259, 260, 261, 262, 263, 264, 265, 266, 267, 268, 269, 270, 271, 272, 122, 123, 124, 125, 126, 127, 128, 273, 274, 275, 276, 277, 278, 279, 280, 281, 282, 283, 284, 285, 286, 287, 288, 289, 290, 291, 292, 293, 294, 295, 118, 119, 120, 121, 296, 297, 298, 299, 300, 301, 302, 303, 510, 511, 512, 513, 514, 515, 516, 517] (by decide +kernel) (by decide +kernel)
set_option maxRecDepth 20000 in
theorem gL_law_X4_tell : GoodIn wsL_law (wsV RL 31 RX4 yX4_tell wsX4_tell) := goodIn_app (goodIn_of _ (by decide +kernel)) ggL_law_X4_tell
set_option maxRecDepth 20000 in
theorem ggL_law_X3_would : GoodIn wsL_law wsX3_would := goodIn_r _ [307, 26, 15, 141, 142, 2, 143, 144, 145, 146, 77, 78, 79, 91, 92, 93, 147, 14, 148, 149, 30, 150, 151, 152, 153, 38, 154, 25, 155, 156, 52, 53, 54, 55, 56, 61, 157, 158, 159, 160, 57, 58, 59, 60, 161, 162, 163, 164, 165, 166, 167, 168, 62, 169, 170, 171, 172, 173, 174, 175, 176, 177, 178, 179, 31, 97, 21, 98, 99, 45, 100, 101, 102, 103, 41, 104, 105, 106, 47, 46, 48, 180, 181, 182, 183, 184, 185, 186, 187, 188, 189, 190, 191, 192, 193, 194, 195, 196, 197, 198, 199, 200, 201, 202, 203, 204, 205, 206, 207, 208, 209, 210, 40, 211, 212, 213, 214, 94, 95, 96, 215, 216, 217, 218, 219, 220, 221, 504, 505, 506, 507, 508, 509, 527, 528, 529, 530, 531, 532, 533, 534, 535, 536, 537, 518, 519, 520, 521, 522, 523, 524, 525, 526] (by decide +kernel) (by decide +kernel)
set_option maxRecDepth 20000 in
theorem gL_law_X3_would : GoodIn wsL_law (wsV RL 32 RX3 yX3_would wsX3_would) := goodIn_app (goodIn_of _ (by decide +kernel)) ggL_law_X3_would
set_option maxRecDepth 20000 in
theorem ggL_law_X4_would : GoodIn wsL_law wsX4_would := goodIn_r _ [311, 232, 237, 238, 5, 239, 240, 241, 242, 84, 85, 86, 243, 244, 245, 246, 247, 248, 249, 67, 250, 251, 252, 253, 254, 255, 256, 257, 258, 259, 260, 261, 262, 263, 264, 265, 266, 267, 268, 269, 270, 271, 272, 122, 123, 124, 125, 126, 127, 128, 273, 274, 275, 276, 277, 278, 279, 280, 281, 282, 283, 284, 285, 286, 287, 233, 234, 235, 236, 288, 289, 290, 291, 292, 293, 294, 295, 118, 119, 120, 121, 296, 297, 298, 299, 300, 301, 302, 303, 510, 511, 512, 513, 514, 515, 516, 517] (by decide +kernel) (by decide +kernel)
set_option maxRecDepth 20000 in
theorem gL_law_X4_would : GoodIn wsL_law (wsV RL 35 RX4 yX4_would wsX4_would) := goodIn_app (goodIn_of _ (by decide +kernel)) ggL_law_X4_would
set_option maxRecDepth 20000 in
theorem ggL_law_X3_back : GoodIn wsL_law wsX3_back := goodIn_r _ [315, 15, 77, 78, 2, 79, 101, 14, 102, 103, 41, 316, 317, 318, 319, 222, 223, 224, 504, 505, 506, 507, 508, 509, 518, 519, 520, 521, 522] (by decide +kernel) (by decide +kernel)
set_option maxRecDepth 20000 in
theorem gL_law_X3_back : GoodIn wsL_law (wsV RL 36 RX3 yX3_back wsX3_back) := goodIn_app (goodIn_of _ (by decide +kernel)) ggL_law_X3_back
set_option maxRecDepth 20000 in
theorem ggL_law_X4_back : GoodIn wsL_law wsX4_back := goodIn_r _ [323, 67, 324, 325, 326, 5, 327, 84, 85, 86, 122, 123, 124, 125, 126, 127, 128, 510, 511, 512, 513, 514, 515, 516, 517] (by decide +kernel) (by decide +kernel)
set_option maxRecDepth 20000 in
theorem gL_law_X4_back : GoodIn wsL_law (wsV RL 39 RX4 yX4_back wsX4_back) := goodIn_app (goodIn_of _ (by decide +kernel)) ggL_law_X4_back
set_option maxRecDepth 20000 in
theorem ggL_law_X3_burst : GoodIn wsL_law wsX3_burst := goodIn_r _ [331, 15, 77, 78, 2, 79, 101, 14, 102, 103, 41, 504, 505, 506, 507, 508, 509, 518, 519, 520, 521, 522] (by decide +kernel) (by decide +kernel)
set_option maxRecDepth 20000 in
theorem gL_law_X3_burst : GoodIn wsL_law (wsV RL 40 RX3 yX3_burst wsX3_burst) := goodIn_app (goodIn_of _ (by decide +kernel)) ggL_law_X3_burst
set_option maxRecDepth 20000 in
theorem ggL_law_X4_burst : GoodIn wsL_law wsX4_burst := goodIn_r _ [335, 324, 325, 326, 5, 327, 67, 84, 85, 86, 122, 123, 124, 125, 126, 127, 128, 510, 511, 512, 513, 514, 515, 516, 517] (by decide +kernel) (by decide +kernel)
set_option maxRecDepth 20000 in
theorem gL_law_X4_burst : GoodIn wsL_law (wsV RL 43 RX4 yX4_burst wsX4_burst) := goodIn_app (goodIn_of _ (by decide +kernel)) ggL_law_X4_burst
set_option maxRecDepth 20000 in
theorem ggL_law_X3_booking : GoodIn wsL_law wsX3_booking := goodIn_r _ [339, 15, 22, 144, 145, 2, 146, 77, 78, 79, 177, 14, 178, 179, 31, 97, 21, 98, 99, 45, 100, 101, 102, 103, 41, 104, 105, 106, 47, 46, 48, 340, 341, 342, 343, 344, 345, 346, 110, 111, 112, 113, 347, 348, 349, 350, 351, 352, 504, 505, 506, 507, 508, 509, 518, 519, 520, 521, 522, 523, 524, 525, 526] (by decide +kernel) (by decide +kernel)
set_option maxRecDepth 20000 in
theorem gL_law_X3_booking : GoodIn wsL_law (wsV RL 44 RX3 yX3_booking wsX3_booking) := goodIn_app (goodIn_of _ (by decide +kernel)) ggL_law_X3_booking
set_option maxRecDepth 20000 in
theorem ggL_law_X4_booking : GoodIn wsL_law wsX4_booking := goodIn_r _ [356, 240, 241, 5, 242, 84, 85, 86, 243, 244, 245, 357, 358, 359, 360, 67, 118, 119, 120, 121, 122, 123, 124, 125, 126, 127, 128, 269, 270, 271, 272, 361, 362, 363, 364, 510, 511, 512, 513, 514, 515, 516, 517] (by decide +kernel) (by decide +kernel)
set_option maxRecDepth 20000 in
theorem gL_law_X4_booking : GoodIn wsL_law (wsV RL 48 RX4 yX4_booking wsX4_booking) := goodIn_app (goodIn_of _ (by decide +kernel)) ggL_law_X4_booking
set_option maxRecDepth 20000 in
theorem ggL_law_X3_held : GoodIn wsL_law wsX3_held := goodIn_r _ [368, 15, 22, 77, 78, 2, 79, 94, 14, 95, 96, 31, 97, 21, 98, 99, 45, 100, 101, 102, 103, 41, 104, 105, 106, 47, 46, 48, 340, 341, 342, 343, 344, 345, 346, 110, 111, 112, 113, 347, 348, 349, 350, 351, 352, 504, 505, 506, 507, 508, 509, 518, 519, 520, 521, 522, 523, 524, 525, 526] (by decide +kernel) (by decide +kernel)
set_option maxRecDepth 20000 in
theorem gL_law_X3_held : GoodIn wsL_law (wsV RL 49 RX3 yX3_held wsX3_held) := goodIn_app (goodIn_of _ (by decide +kernel)) ggL_law_X3_held
set_option maxRecDepth 20000 in
theorem ggL_law_X4_held : GoodIn wsL_law wsX4_held := goodIn_r _ [372, 84, 85, 5, 86, 357, 358, 359, 360, 67, 118, 119, 120, 121, 122, 123, 124, 125, 126, 127, 128, 269, 270, 271, 272, 361, 362, 363, 364, 510, 511, 512, 513, 514, 515, 516, 517] (by decide +kernel) (by decide +kernel)
set_option maxRecDepth 20000 in
theorem gL_law_X4_held : GoodIn wsL_law (wsV RL 53 RX4 yX4_held wsX4_held) := goodIn_app (goodIn_of _ (by decide +kernel)) ggL_law_X4_held
set_option maxRecDepth 20000 in
theorem ggL_law_X3_busy : GoodIn wsL_law wsX3_busy := goodIn_r _ [376, 15, 22, 144, 145, 2, 146, 77, 78, 79, 377, 378, 379, 91, 92, 93, 177, 14, 178, 179, 31, 97, 21, 98, 99, 45, 100, 101, 102, 103, 41, 104, 105, 106, 47, 46, 48, 380, 381, 382, 191, 192, 175, 193, 194, 195, 196, 504, 505, 506, 507, 508, 509, 518, 519, 520, 521, 522, 523, 524, 525, 526] (by decide +kernel) (by decide +kernel)
set_option maxRecDepth 20000 in
theorem gL_law_X3_busy : GoodIn wsL_law (wsV RL 54 RX3 yX3_busy wsX3_busy) := goodIn_app (goodIn_of _ (by decide +kernel)) ggL_law_X3_busy
set_option maxRecDepth 20000 in
theorem ggL_law_X4_busy : GoodIn wsL_law wsX4_busy := goodIn_r _ [386, 240, 241, 5, 242, 84, 85, 86, 243, 244, 245, 387, 388, 389, 265, 266, 267, 268, 67, 269, 270, 271, 272, 122, 123, 124, 125, 126, 127, 128, 273, 274, 275, 510, 511, 512, 513, 514, 515, 516, 517] (by decide +kernel) (by decide +kernel)
set_option maxRecDepth 20000 in
theorem gL_law_X4_busy : GoodIn wsL_law (wsV RL 57 RX4 yX4_busy wsX4_busy) := goodIn_app (goodIn_of _ (by decide +kernel)) ggL_law_X4_busy
set_option maxRecDepth 20000 in
theorem ggL_law_X3_free : GoodIn wsL_law wsX3_free := goodIn_r _ [393, 15, 22, 77, 78, 2, 79, 377, 378, 379, 91, 92, 93, 177, 14, 178, 179, 31, 97, 21, 98, 99, 45, 100, 101, 102, 103, 41, 104, 105, 106, 47, 46, 48, 184, 185, 186, 187, 188, 189, 190, 191, 192, 175, 193, 194, 195, 196, 504, 505, 506, 507, 508, 509, 518, 519, 520, 521, 522, 523, 524, 525, 526] (by decide +kernel) (by decide +kernel)
set_option maxRecDepth 20000 in
theorem gL_law_X3_free : GoodIn wsL_law (wsV RL 58 RX3 yX3_free wsX3_free) := goodIn_app (goodIn_of _ (by decide +kernel)) ggL_law_X3_free
set_option maxRecDepth 20000 in
theorem ggL_law_X4_free : GoodIn wsL_law wsX4_free := goodIn_r _ [397, 240, 241, 5, 242, 84, 85, 86, 387, 388, 389, 265, 266, 267, 268, 67, 269, 270, 271, 272, 122, 123, 124, 125, 126, 127, 128, 273, 274, 275, 510, 511, 512, 513, 514, 515, 516, 517] (by decide +kernel) (by decide +kernel)
set_option maxRecDepth 20000 in
theorem gL_law_X4_free : GoodIn wsL_law (wsV RL 61 RX4 yX4_free wsX4_free) := goodIn_app (goodIn_of _ (by decide +kernel)) ggL_law_X4_free
set_option maxRecDepth 20000 in
theorem ggL_law_X3_next : GoodIn wsL_law wsX3_next := goodIn_r _ [401, 15, 22, 144, 145, 2, 146, 77, 78, 79, 377, 378, 379, 91, 92, 93, 177, 14, 178, 179, 31, 97, 21, 98, 99, 45, 100, 101, 102, 103, 41, 104, 105, 106, 47, 46, 48, 402, 403, 404, 504, 505, 506, 507, 508, 509, 518, 519, 520, 521, 522, 523, 524, 525, 526] (by decide +kernel) (by decide +kernel)
set_option maxRecDepth 20000 in
theorem gL_law_X3_next : GoodIn wsL_law (wsV RL 62 RX3 yX3_next wsX3_next) := goodIn_app (goodIn_of _ (by decide +kernel)) ggL_law_X3_next
set_option maxRecDepth 20000 in
theorem ggL_law_X4_next : GoodIn wsL_law wsX4_next := goodIn_r _ [408, 67, 240, 241, 5, 242, 84, 85, 86, 243, 244, 245, 387, 388, 389, 269, 270, 271, 272, 122, 123, 124, 125, 126, 127, 128, 265, 266, 267, 268, 273, 274, 275, 510, 511, 512, 513, 514, 515, 516, 517] (by decide +kernel) (by decide +kernel)
set_option maxRecDepth 20000 in
theorem gL_law_X4_next : GoodIn wsL_law (wsV RL 65 RX4 yX4_next wsX4_next) := goodIn_app (goodIn_of _ (by decide +kernel)) ggL_law_X4_next
set_option maxRecDepth 20000 in
theorem ggL_law_X3_hole : GoodIn wsL_law wsX3_hole := goodIn_r _ [412, 15, 22, 144, 145, 2, 146, 77, 78, 79, 177, 14, 178, 179, 31, 97, 21, 98, 99, 45, 100, 101, 102, 103, 41, 104, 105, 106, 47, 46, 48, 413, 414, 415, 416, 417, 418, 419, 194, 195, 175, 196, 110, 111, 112, 113, 344, 345, 346, 504, 505, 506, 507, 508, 509, 518, 519, 520, 521, 522, 523, 524, 525, 526] (by decide +kernel) (by decide +kernel)
set_option maxRecDepth 20000 in
theorem gL_law_X3_hole : GoodIn wsL_law (wsV RL 66 RX3 yX3_hole wsX3_hole) := goodIn_app (goodIn_of _ (by decide +kernel)) ggL_law_X3_hole
set_option maxRecDepth 20000 in
theorem ggL_law_X4_hole : GoodIn wsL_law wsX4_hole := goodIn_r _ [423, 67, 240, 241, 5, 242, 84, 85, 86, 243, 244, 245, 357, 358, 359, 360, 118, 119, 120, 121, 122, 123, 124, 125, 126, 127, 128, 269, 270, 271, 272, 361, 362, 363, 364, 510, 511, 512, 513, 514, 515, 516, 517] (by decide +kernel) (by decide +kernel)
set_option maxRecDepth 20000 in
theorem gL_law_X4_hole : GoodIn wsL_law (wsV RL 69 RX4 yX4_hole wsX4_hole) := goodIn_app (goodIn_of _ (by decide +kernel)) ggL_law_X4_hole
set_option maxRecDepth 20000 in
theorem ggL_law_X3_tally : GoodIn wsL_law wsX3_tally := goodIn_r _ [427, 15, 77, 78, 2, 79, 428, 14, 429, 430, 31, 431, 432, 433, 434, 100, 101, 102, 103, 41, 435, 436, 437, 438, 439, 440, 441, 442, 443, 444, 445, 446, 447, 504, 505, 506, 507, 508, 509, 518, 519, 520, 521, 522] (by decide +kernel) (by decide +kernel)
set_option maxRecDepth 20000 in
theorem gL_law_X3_tally : GoodIn wsL_law (wsV RL 70 RX3 yX3_tally wsX3_tally) := goodIn_app (goodIn_of _ (by decide +kernel)) ggL_law_X3_tally
set_option maxRecDepth 20000 in
theorem ggL_law_X4_tally : GoodIn wsL_law wsX4_tally := goodIn_r _ [451, 67, 84, 85, 5, 86, 122, 123, 124, 125, 126, 127, 128, 452, 453, 454, 510, 511, 512, 513, 514, 515, 516, 517] (by decide +kernel) (by decide +kernel)
set_option maxRecDepth 20000 in
theorem gL_law_X4_tally : GoodIn wsL_law (wsV RL 73 RX4 yX4_tally wsX4_tally) := goodIn_app (goodIn_of _ (by decide +kernel)) ggL_law_X4_tally
set_option maxRecDepth 20000 in
theorem ggL_law_X3_count : GoodIn wsL_law wsX3_count := goodIn_r _ [458, 15, 18, 91, 92, 2, 93, 459, 14, 460, 461, 462, 463, 464, 465, 31, 100, 101, 102, 103, 41, 78, 79, 151, 152, 153, 38, 208, 209, 210, 40, 466, 467, 468, 504, 505, 506, 507, 508, 509, 518, 519, 520, 521, 522] (by decide +kernel) (by decide +kernel)
set_option maxRecDepth 20000 in
theorem gL_law_X3_count : GoodIn wsL_law (wsV RL 74 RX3 yX3_count wsX3_count) := goodIn_app (goodIn_of _ (by decide +kernel)) ggL_law_X3_count
set_option maxRecDepth 20000 in
theorem ggL_law_X4_count : GoodIn wsL_law wsX4_count := goodIn_r _ [472, 67, 70, 84, 85, 5, 86, 473, 474, 475, 476, 122, 123, 124, 125, 126, 127, 128, 510, 511, 512, 513, 514, 515, 516, 517] (by decide +kernel) (by decide +kernel)
set_option maxRecDepth 20000 in
theorem gL_law_X4_count : GoodIn wsL_law (wsV RL 77 RX4 yX4_count wsX4_count) := goodIn_app (goodIn_of _ (by decide +kernel)) ggL_law_X4_count
set_option maxRecDepth 20000 in
theorem ggL_law_X3_image : GoodIn wsL_law wsX3_image := goodIn_r _ [480, 15, 18, 77, 78, 2, 79, 481, 482, 483, 484, 16, 17, 485, 14, 486, 487, 30, 31, 38, 488, 489, 490, 491, 40, 41, 504, 505, 506, 507, 508, 509, 518, 519, 520, 521, 522] (by decide +kernel) (by decide +kernel)
set_option maxRecDepth 20000 in
theorem gL_law_X3_image : GoodIn wsL_law (wsV RL 78 RX3 yX3_image wsX3_image) := goodIn_app (goodIn_of _ (by decide +kernel)) ggL_law_X3_image
set_option maxRecDepth 20000 in
theorem ggL_law_X4_image : GoodIn wsL_law wsX4_image := goodIn_r _ [495, 68, 67, 70, 84, 85, 5, 86, 510, 511, 512, 513, 514, 515, 516, 517] (by decide +kernel) (by decide +kernel)
set_option maxRecDepth 20000 in
theorem gL_law_X4_image : GoodIn wsL_law (wsV RL 81 RX4 yX4_image wsX4_image) := goodIn_app (goodIn_of _ (by decide +kernel)) ggL_law_X4_image
set_option maxRecDepth 20000 in
theorem ggL_law_X3_restore : GoodIn wsL_law wsX3_restore := goodIn_r _ [499, 18, 15, 77, 78, 2, 79, 481, 482, 483, 484, 16, 17, 485, 14, 486, 487, 30, 31, 38, 488, 489, 490, 491, 40, 41, 504, 505, 506, 507, 508, 509, 518, 519, 520, 521, 522] (by decide +kernel) (by decide +kernel)
set_option maxRecDepth 20000 in
theorem gL_law_X3_restore : GoodIn wsL_law (wsV RL 82 RX3 yX3_restore wsX3_restore) := goodIn_app (goodIn_of _ (by decide +kernel)) ggL_law_X3_restore
set_option maxRecDepth 20000 in
theorem ggL_law_X4_restore : GoodIn wsL_law wsX4_restore := goodIn_r _ [503, 70, 67, 68, 84, 85, 5, 86, 510, 511, 512, 513, 514, 515, 516, 517] (by decide +kernel) (by decide +kernel)
set_option maxRecDepth 20000 in
theorem gL_law_X4_restore : GoodIn wsL_law (wsV RL 85 RX4 yX4_restore wsX4_restore) := goodIn_app (goodIn_of _ (by decide +kernel)) ggL_law_X4_restore
theorem dL_law_0 : decode cL_law 0 = .ok (.new 7, 3) := by decide +kernel
theorem dL_law_3 : decode cL_law 3 = .ok (.dup, 1) := by decide +kernel
theorem dL_law_4 : decode cL_law 4 = .ok (.invokespecial 9, 3) := by decide +kernel
theorem dL_law_7 : decode cL_law 7 = .ok (.astore_n 1, 1) := by decide +kernel
theorem dL_law_8 : decode cL_law 8 = .ok (.new 10, 3) := by decide +kernel
theorem dL_law_11 : decode cL_law 11 = .ok (.dup, 1) := by decide +kernel
theorem dL_law_12 : decode cL_law 12 = .ok (.invokespecial 12, 3) := by decide +kernel
theorem dL_law_15 : decode cL_law 15 = .ok (.astore_n 2, 1) := by decide +kernel
theorem dL_law_16 : decode cL_law 16 = .ok (.iconst 0, 1) := by decide +kernel
theorem dL_law_17 : decode cL_law 17 = .ok (.istore_n 3, 1) := by decide +kernel
theorem dL_law_18 : decode cL_law 18 = .ok (.iload_n 3, 1) := by decide +kernel
theorem dL_law_19 : decode cL_law 19 = .ok (.aload_n 0, 1) := by decide +kernel
theorem dL_law_20 : decode cL_law 20 = .ok (.arraylength, 1) := by decide +kernel
theorem dL_law_21 : decode cL_law 21 = .ok (.bipush 6, 2) := by decide +kernel
theorem dL_law_23 : decode cL_law 23 = .ok (.isub, 1) := by decide +kernel
theorem dL_law_24 : decode cL_law 24 = .ok (.if_icmp .gt 769, 3) := by decide +kernel
theorem dL_law_27 : decode cL_law 27 = .ok (.aload_n 0, 1) := by decide +kernel
theorem dL_law_28 : decode cL_law 28 = .ok (.iload_n 3, 1) := by decide +kernel
theorem dL_law_29 : decode cL_law 29 = .ok (.iaload, 1) := by decide +kernel
theorem dL_law_30 : decode cL_law 30 = .ok (.bipush 31, 2) := by decide +kernel
theorem dL_law_32 : decode cL_law 32 = .ok (.iand, 1) := by decide +kernel
theorem dL_law_33 : decode cL_law 33 = .ok (.tableswitch 754 0 16 #[83, 116, 149, 172, 235, 298, 321, 354, 407, 450, 503, 546, 599, 652, 685, 708, 731], 83) := by decide +kernel
theorem dL_law_116 : decode cL_law 116 = .ok (.aload_n 1, 1) := by decide +kernel
theorem dL_law_117 : decode cL_law 117 = .ok (.aload_n 0, 1) := by decide +kernel
theorem dL_law_118 : decode cL_law 118 = .ok (.iload_n 3, 1) := by decide +kernel
theorem dL_law_119 : decode cL_law 119 = .ok (.iconst 1, 1) := by decide +kernel
theorem dL_law_120 : decode cL_law 120 = .ok (.iadd, 1) := by decide +kernel
theorem dL_law_121 : decode cL_law 121 = .ok (.iaload, 1) := by decide +kernel
theorem dL_law_122 : decode cL_law 122 = .ok (.aload_n 0, 1) := by decide +kernel
theorem dL_law_123 : decode cL_law 123 = .ok (.iload_n 3, 1) := by decide +kernel
theorem dL_law_124 : decode cL_law 124 = .ok (.iconst 2, 1) := by decide +kernel
theorem dL_law_125 : decode cL_law 125 = .ok (.iadd, 1) := by decide +kernel
theorem dL_law_126 : decode cL_law 126 = .ok (.iaload, 1) := by decide +kernel
theorem dL_law_127 : decode cL_law 127 = .ok (.invokevirtual 13, 3) := by decide +kernel
theorem dL_law_130 : decode cL_law 130 = .ok (.aload_n 2, 1) := by decide +kernel
theorem dL_law_131 : decode cL_law 131 = .ok (.aload_n 0, 1) := by decide +kernel
theorem dL_law_132 : decode cL_law 132 = .ok (.iload_n 3, 1) := by decide +kernel
theorem dL_law_133 : decode cL_law 133 = .ok (.iconst 1, 1) := by decide +kernel
theorem dL_law_134 : decode cL_law 134 = .ok (.iadd, 1) := by decide +kernel
theorem dL_law_135 : decode cL_law 135 = .ok (.iaload, 1) := by decide +kernel
theorem dL_law_136 : decode cL_law 136 = .ok (.aload_n 0, 1) := by decide +kernel
theorem dL_law_137 : decode cL_law 137 = .ok (.iload_n 3, 1) := by decide +kernel
theorem dL_law_138 : decode cL_law 138 = .ok (.iconst 2, 1) := by decide +kernel
theorem dL_law_139 : decode cL_law 139 = .ok (.iadd, 1) := by decide +kernel
theorem dL_law_140 : decode cL_law 140 = .ok (.iaload, 1) := by decide +kernel
theorem dL_law_141 : decode cL_law 141 = .ok (.invokevirtual 17, 3) := by decide +kernel
theorem dL_law_144 : decode cL_law 144 = .ok (.if_icmp .eq 643, 3) := by decide +kernel
theorem dL_law_147 : decode cL_law 147 = .ok (.iconst 0, 1) := by decide +kernel
theorem dL_law_148 : decode cL_law 148 = .ok (.ireturn, 1) := by decide +kernel
theorem dL_law_149 : decode cL_law 149 = .ok (.aload_n 1, 1) := by decide +kernel
theorem dL_law_150 : decode cL_law 150 = .ok (.aload_n 0, 1) := by decide +kernel
theorem dL_law_151 : decode cL_law 151 = .ok (.iload_n 3, 1) := by decide +kernel
theorem dL_law_152 : decode cL_law 152 = .ok (.iconst 1, 1) := by decide +kernel
theorem dL_law_153 : decode cL_law 153 = .ok (.iadd, 1) := by decide +kernel
theorem dL_law_154 : decode cL_law 154 = .ok (.iaload, 1) := by decide +kernel
theorem dL_law_155 : decode cL_law 155 = .ok (.aload_n 0, 1) := by decide +kernel
theorem dL_law_156 : decode cL_law 156 = .ok (.iload_n 3, 1) := by decide +kernel
theorem dL_law_157 : decode cL_law 157 = .ok (.iconst 2, 1) := by decide +kernel
theorem dL_law_158 : decode cL_law 158 = .ok (.iadd, 1) := by decide +kernel
theorem dL_law_159 : decode cL_law 159 = .ok (.iaload, 1) := by decide +kernel
theorem dL_law_160 : decode cL_law 160 = .ok (.invokevirtual 18, 3) := by decide +kernel
theorem dL_law_163 : decode cL_law 163 = .ok (.aload_n 2, 1) := by decide +kernel
theorem dL_law_164 : decode cL_law 164 = .ok (.aload_n 0, 1) := by decide +kernel
theorem dL_law_165 : decode cL_law 165 = .ok (.iload_n 3, 1) := by decide +kernel
theorem dL_law_166 : decode cL_law 166 = .ok (.iconst 1, 1) := by decide +kernel
theorem dL_law_167 : decode cL_law 167 = .ok (.iadd, 1) := by decide +kernel
theorem dL_law_168 : decode cL_law 168 = .ok (.iaload, 1) := by decide +kernel
theorem dL_law_169 : decode cL_law 169 = .ok (.aload_n 0, 1) := by decide +kernel
theorem dL_law_170 : decode cL_law 170 = .ok (.iload_n 3, 1) := by decide +kernel
theorem dL_law_171 : decode cL_law 171 = .ok (.iconst 2, 1) := by decide +kernel
theorem dL_law_172 : decode cL_law 172 = .ok (.iadd, 1) := by decide +kernel
theorem dL_law_173 : decode cL_law 173 = .ok (.iaload, 1) := by decide +kernel
theorem dL_law_174 : decode cL_law 174 = .ok (.invokevirtual 21, 3) := by decide +kernel
theorem dL_law_177 : decode cL_law 177 = .ok (.if_icmp .eq 610, 3) := by decide +kernel
theorem dL_law_180 : decode cL_law 180 = .ok (.iconst 0, 1) := by decide +kernel
theorem dL_law_181 : decode cL_law 181 = .ok (.ireturn, 1) := by decide +kernel
theorem dL_law_182 : decode cL_law 182 = .ok (.aload_n 1, 1) := by decide +kernel
theorem dL_law_183 : decode cL_law 183 = .ok (.aload_n 0, 1) := by decide +kernel
theorem dL_law_184 : decode cL_law 184 = .ok (.iload_n 3, 1) := by decide +kernel
theorem dL_law_185 : decode cL_law 185 = .ok (.iconst 1, 1) := by decide +kernel
theorem dL_law_186 : decode cL_law 186 = .ok (.iadd, 1) := by decide +kernel
theorem dL_law_187 : decode cL_law 187 = .ok (.iaload, 1) := by decide +kernel
theorem dL_law_188 : decode cL_law 188 = .ok (.invokevirtual 22, 3) := by decide +kernel
theorem dL_law_191 : decode cL_law 191 = .ok (.aload_n 2, 1) := by decide +kernel
theorem dL_law_192 : decode cL_law 192 = .ok (.aload_n 0, 1) := by decide +kernel
theorem dL_law_193 : decode cL_law 193 = .ok (.iload_n 3, 1) := by decide +kernel
theorem dL_law_194 : decode cL_law 194 = .ok (.iconst 1, 1) := by decide +kernel
theorem dL_law_195 : decode cL_law 195 = .ok (.iadd, 1) := by decide +kernel
theorem dL_law_196 : decode cL_law 196 = .ok (.iaload, 1) := by decide +kernel
theorem dL_law_197 : decode cL_law 197 = .ok (.invokevirtual 26, 3) := by decide +kernel
theorem dL_law_200 : decode cL_law 200 = .ok (.if_icmp .eq 587, 3) := by decide +kernel
theorem dL_law_203 : decode cL_law 203 = .ok (.iconst 0, 1) := by decide +kernel
theorem dL_law_204 : decode cL_law 204 = .ok (.ireturn, 1) := by decide +kernel
theorem dL_law_205 : decode cL_law 205 = .ok (.aload_n 1, 1) := by decide +kernel
theorem dL_law_206 : decode cL_law 206 = .ok (.aload_n 0, 1) := by decide +kernel
theorem dL_law_207 : decode cL_law 207 = .ok (.iload_n 3, 1) := by decide +kernel
theorem dL_law_208 : decode cL_law 208 = .ok (.iconst 1, 1) := by decide +kernel
theorem dL_law_209 : decode cL_law 209 = .ok (.iadd, 1) := by decide +kernel
theorem dL_law_210 : decode cL_law 210 = .ok (.iaload, 1) := by decide +kernel
theorem dL_law_211 : decode cL_law 211 = .ok (.aload_n 0, 1) := by decide +kernel
theorem dL_law_212 : decode cL_law 212 = .ok (.iload_n 3, 1) := by decide +kernel
theorem dL_law_213 : decode cL_law 213 = .ok (.iconst 2, 1) := by decide +kernel
theorem dL_law_214 : decode cL_law 214 = .ok (.iadd, 1) := by decide +kernel
theorem dL_law_215 : decode cL_law 215 = .ok (.iaload, 1) := by decide +kernel
theorem dL_law_216 : decode cL_law 216 = .ok (.aload_n 0, 1) := by decide +kernel
theorem dL_law_217 : decode cL_law 217 = .ok (.iload_n 3, 1) := by decide +kernel
theorem dL_law_218 : decode cL_law 218 = .ok (.iconst 3, 1) := by decide +kernel
theorem dL_law_219 : decode cL_law 219 = .ok (.iadd, 1) := by decide +kernel
theorem dL_law_220 : decode cL_law 220 = .ok (.iaload, 1) := by decide +kernel
theorem dL_law_221 : decode cL_law 221 = .ok (.aload_n 0, 1) := by decide +kernel
theorem dL_law_222 : decode cL_law 222 = .ok (.iload_n 3, 1) := by decide +kernel
theorem dL_law_223 : decode cL_law 223 = .ok (.iconst 4, 1) := by decide +kernel
theorem dL_law_224 : decode cL_law 224 = .ok (.iadd, 1) := by decide +kernel
theorem dL_law_225 : decode cL_law 225 = .ok (.iaload, 1) := by decide +kernel
theorem dL_law_226 : decode cL_law 226 = .ok (.aload_n 0, 1) := by decide +kernel
theorem dL_law_227 : decode cL_law 227 = .ok (.iload_n 3, 1) := by decide +kernel
theorem dL_law_228 : decode cL_law 228 = .ok (.iconst 5, 1) := by decide +kernel
theorem dL_law_229 : decode cL_law 229 = .ok (.iadd, 1) := by decide +kernel
theorem dL_law_230 : decode cL_law 230 = .ok (.iaload, 1) := by decide +kernel
theorem dL_law_231 : decode cL_law 231 = .ok (.invokevirtual 27, 3) := by decide +kernel
theorem dL_law_234 : decode cL_law 234 = .ok (.aload_n 2, 1) := by decide +kernel
theorem dL_law_235 : decode cL_law 235 = .ok (.aload_n 0, 1) := by decide +kernel
theorem dL_law_236 : decode cL_law 236 = .ok (.iload_n 3, 1) := by decide +kernel
theorem dL_law_237 : decode cL_law 237 = .ok (.iconst 1, 1) := by decide +kernel
theorem dL_law_238 : decode cL_law 238 = .ok (.iadd, 1) := by decide +kernel
theorem dL_law_239 : decode cL_law 239 = .ok (.iaload, 1) := by decide +kernel
theorem dL_law_240 : decode cL_law 240 = .ok (.aload_n 0, 1) := by decide +kernel
theorem dL_law_241 : decode cL_law 241 = .ok (.iload_n 3, 1) := by decide +kernel
theorem dL_law_242 : decode cL_law 242 = .ok (.iconst 2, 1) := by decide +kernel
theorem dL_law_243 : decode cL_law 243 = .ok (.iadd, 1) := by decide +kernel
theorem dL_law_244 : decode cL_law 244 = .ok (.iaload, 1) := by decide +kernel
theorem dL_law_245 : decode cL_law 245 = .ok (.aload_n 0, 1) := by decide +kernel
theorem dL_law_246 : decode cL_law 246 = .ok (.iload_n 3, 1) := by decide +kernel
theorem dL_law_247 : decode cL_law 247 = .ok (.iconst 3, 1) := by decide +kernel
theorem dL_law_248 : decode cL_law 248 = .ok (.iadd, 1) := by decide +kernel
theorem dL_law_249 : decode cL_law 249 = .ok (.iaload, 1) := by decide +kernel
theorem dL_law_250 : decode cL_law 250 = .ok (.aload_n 0, 1) := by decide +kernel
theorem dL_law_251 : decode cL_law 251 = .ok (.iload_n 3, 1) := by decide +kernel
theorem dL_law_252 : decode cL_law 252 = .ok (.iconst 4, 1) := by decide +kernel
theorem dL_law_253 : decode cL_law 253 = .ok (.iadd, 1) := by decide +kernel
theorem dL_law_254 : decode cL_law 254 = .ok (.iaload, 1) := by decide +kernel
theorem dL_law_255 : decode cL_law 255 = .ok (.aload_n 0, 1) := by decide +kernel
theorem dL_law_256 : decode cL_law 256 = .ok (.iload_n 3, 1) := by decide +kernel
theorem dL_law_257 : decode cL_law 257 = .ok (.iconst 5, 1) := by decide +kernel
theorem dL_law_258 : decode cL_law 258 = .ok (.iadd, 1) := by decide +kernel
theorem dL_law_259 : decode cL_law 259 = .ok (.iaload, 1) := by decide +kernel
theorem dL_law_260 : decode cL_law 260 = .ok (.invokevirtual 31, 3) := by decide +kernel
theorem dL_law_263 : decode cL_law 263 = .ok (.if_icmp .eq 524, 3) := by decide +kernel
theorem dL_law_266 : decode cL_law 266 = .ok (.iconst 0, 1) := by decide +kernel
theorem dL_law_267 : decode cL_law 267 = .ok (.ireturn, 1) := by decide +kernel
theorem dL_law_268 : decode cL_law 268 = .ok (.aload_n 1, 1) := by decide +kernel
theorem dL_law_269 : decode cL_law 269 = .ok (.aload_n 0, 1) := by decide +kernel
theorem dL_law_270 : decode cL_law 270 = .ok (.iload_n 3, 1) := by decide +kernel
theorem dL_law_271 : decode cL_law 271 = .ok (.iconst 1, 1) := by decide +kernel
theorem dL_law_272 : decode cL_law 272 = .ok (.iadd, 1) := by decide +kernel
theorem dL_law_273 : decode cL_law 273 = .ok (.iaload, 1) := by decide +kernel
theorem dL_law_274 : decode cL_law 274 = .ok (.aload_n 0, 1) := by decide +kernel
theorem dL_law_275 : decode cL_law 275 = .ok (.iload_n 3, 1) := by decide +kernel
theorem dL_law_276 : decode cL_law 276 = .ok (.iconst 2, 1) := by decide +kernel
theorem dL_law_277 : decode cL_law 277 = .ok (.iadd, 1) := by decide +kernel
theorem dL_law_278 : decode cL_law 278 = .ok (.iaload, 1) := by decide +kernel
theorem dL_law_279 : decode cL_law 279 = .ok (.aload_n 0, 1) := by decide +kernel
theorem dL_law_280 : decode cL_law 280 = .ok (.iload_n 3, 1) := by decide +kernel
theorem dL_law_281 : decode cL_law 281 = .ok (.iconst 3, 1) := by decide +kernel
theorem dL_law_282 : decode cL_law 282 = .ok (.iadd, 1) := by decide +kernel
theorem dL_law_283 : decode cL_law 283 = .ok (.iaload, 1) := by decide +kernel
theorem dL_law_284 : decode cL_law 284 = .ok (.aload_n 0, 1) := by decide +kernel
theorem dL_law_285 : decode cL_law 285 = .ok (.iload_n 3, 1) := by decide +kernel
theorem dL_law_286 : decode cL_law 286 = .ok (.iconst 4, 1) := by decide +kernel
theorem dL_law_287 : decode cL_law 287 = .ok (.iadd, 1) := by decide +kernel
theorem dL_law_288 : decode cL_law 288 = .ok (.iaload, 1) := by decide +kernel
theorem dL_law_289 : decode cL_law 289 = .ok (.aload_n 0, 1) := by decide +kernel
theorem dL_law_290 : decode cL_law 290 = .ok (.iload_n 3, 1) := by decide +kernel
theorem dL_law_291 : decode cL_law 291 = .ok (.iconst 5, 1) := by decide +kernel
theorem dL_law_292 : decode cL_law 292 = .ok (.iadd, 1) := by decide +kernel
theorem dL_law_293 : decode cL_law 293 = .ok (.iaload, 1) := by decide +kernel
theorem dL_law_294 : decode cL_law 294 = .ok (.invokevirtual 32, 3) := by decide +kernel
theorem dL_law_297 : decode cL_law 297 = .ok (.aload_n 2, 1) := by decide +kernel
theorem dL_law_298 : decode cL_law 298 = .ok (.aload_n 0, 1) := by decide +kernel
theorem dL_law_299 : decode cL_law 299 = .ok (.iload_n 3, 1) := by decide +kernel
theorem dL_law_300 : decode cL_law 300 = .ok (.iconst 1, 1) := by decide +kernel
theorem dL_law_301 : decode cL_law 301 = .ok (.iadd, 1) := by decide +kernel
theorem dL_law_302 : decode cL_law 302 = .ok (.iaload, 1) := by decide +kernel
theorem dL_law_303 : decode cL_law 303 = .ok (.aload_n 0, 1) := by decide +kernel
theorem dL_law_304 : decode cL_law 304 = .ok (.iload_n 3, 1) := by decide +kernel
theorem dL_law_305 : decode cL_law 305 = .ok (.iconst 2, 1) := by decide +kernel
theorem dL_law_306 : decode cL_law 306 = .ok (.iadd, 1) := by decide +kernel
theorem dL_law_307 : decode cL_law 307 = .ok (.iaload, 1) := by decide +kernel
theorem dL_law_308 : decode cL_law 308 = .ok (.aload_n 0, 1) := by decide +kernel
theorem dL_law_309 : decode cL_law 309 = .ok (.iload_n 3, 1) := by decide +kernel
theorem dL_law_310 : decode cL_law 310 = .ok (.iconst 3, 1) := by decide +kernel
theorem dL_law_311 : decode cL_law 311 = .ok (.iadd, 1) := by decide +kernel
theorem dL_law_312 : decode cL_law 312 = .ok (.iaload, 1) := by decide +kernel
theorem dL_law_313 : decode cL_law 313 = .ok (.aload_n 0, 1) := by decide +kernel
theorem dL_law_314 : decode cL_law 314 = .ok (.iload_n 3, 1) := by decide +kernel
theorem dL_law_315 : decode cL_law 315 = .ok (.iconst 4, 1) := by decide +kernel
theorem dL_law_316 : decode cL_law 316 = .ok (.iadd, 1) := by decide +kernel
theorem dL_law_317 : decode cL_law 317 = .ok (.iaload, 1) := by decide +kernel
theorem dL_law_318 : decode cL_law 318 = .ok (.aload_n 0, 1) := by decide +kernel
theorem dL_law_319 : decode cL_law 319 = .ok (.iload_n 3, 1) := by decide +kernel
theorem dL_law_320 : decode cL_law 320 = .ok (.iconst 5, 1) := by decide +kernel
theorem dL_law_321 : decode cL_law 321 = .ok (.iadd, 1) := by decide +kernel
theorem dL_law_322 : decode cL_law 322 = .ok (.iaload, 1) := by decide +kernel
theorem dL_law_323 : decode cL_law 323 = .ok (.invokevirtual 35, 3) := by decide +kernel
theorem dL_law_326 : decode cL_law 326 = .ok (.if_icmp .eq 461, 3) := by decide +kernel
theorem dL_law_329 : decode cL_law 329 = .ok (.iconst 0, 1) := by decide +kernel
theorem dL_law_330 : decode cL_law 330 = .ok (.ireturn, 1) := by decide +kernel
theorem dL_law_331 : decode cL_law 331 = .ok (.aload_n 1, 1) := by decide +kernel
theorem dL_law_332 : decode cL_law 332 = .ok (.aload_n 0, 1) := by decide +kernel
theorem dL_law_333 : decode cL_law 333 = .ok (.iload_n 3, 1) := by decide +kernel
theorem dL_law_334 : decode cL_law 334 = .ok (.iconst 1, 1) := by decide +kernel
theorem dL_law_335 : decode cL_law 335 = .ok (.iadd, 1) := by decide +kernel
theorem dL_law_336 : decode cL_law 336 = .ok (.iaload, 1) := by decide +kernel
theorem dL_law_337 : decode cL_law 337 = .ok (.invokevirtual 36, 3) := by decide +kernel
theorem dL_law_340 : decode cL_law 340 = .ok (.aload_n 2, 1) := by decide +kernel
theorem dL_law_341 : decode cL_law 341 = .ok (.aload_n 0, 1) := by decide +kernel
theorem dL_law_342 : decode cL_law 342 = .ok (.iload_n 3, 1) := by decide +kernel
theorem dL_law_343 : decode cL_law 343 = .ok (.iconst 1, 1) := by decide +kernel
theorem dL_law_344 : decode cL_law 344 = .ok (.iadd, 1) := by decide +kernel
theorem dL_law_345 : decode cL_law 345 = .ok (.iaload, 1) := by decide +kernel
theorem dL_law_346 : decode cL_law 346 = .ok (.invokevirtual 39, 3) := by decide +kernel
theorem dL_law_349 : decode cL_law 349 = .ok (.if_icmp .eq 438, 3) := by decide +kernel
theorem dL_law_352 : decode cL_law 352 = .ok (.iconst 0, 1) := by decide +kernel
theorem dL_law_353 : decode cL_law 353 = .ok (.ireturn, 1) := by decide +kernel
theorem dL_law_354 : decode cL_law 354 = .ok (.aload_n 1, 1) := by decide +kernel
theorem dL_law_355 : decode cL_law 355 = .ok (.aload_n 0, 1) := by decide +kernel
theorem dL_law_356 : decode cL_law 356 = .ok (.iload_n 3, 1) := by decide +kernel
theorem dL_law_357 : decode cL_law 357 = .ok (.iconst 1, 1) := by decide +kernel
theorem dL_law_358 : decode cL_law 358 = .ok (.iadd, 1) := by decide +kernel
theorem dL_law_359 : decode cL_law 359 = .ok (.iaload, 1) := by decide +kernel
theorem dL_law_360 : decode cL_law 360 = .ok (.aload_n 0, 1) := by decide +kernel
theorem dL_law_361 : decode cL_law 361 = .ok (.iload_n 3, 1) := by decide +kernel
theorem dL_law_362 : decode cL_law 362 = .ok (.iconst 2, 1) := by decide +kernel
theorem dL_law_363 : decode cL_law 363 = .ok (.iadd, 1) := by decide +kernel
theorem dL_law_364 : decode cL_law 364 = .ok (.iaload, 1) := by decide +kernel
theorem dL_law_365 : decode cL_law 365 = .ok (.invokevirtual 40, 3) := by decide +kernel
theorem dL_law_368 : decode cL_law 368 = .ok (.aload_n 2, 1) := by decide +kernel
theorem dL_law_369 : decode cL_law 369 = .ok (.aload_n 0, 1) := by decide +kernel
theorem dL_law_370 : decode cL_law 370 = .ok (.iload_n 3, 1) := by decide +kernel
theorem dL_law_371 : decode cL_law 371 = .ok (.iconst 1, 1) := by decide +kernel
theorem dL_law_372 : decode cL_law 372 = .ok (.iadd, 1) := by decide +kernel
theorem dL_law_373 : decode cL_law 373 = .ok (.iaload, 1) := by decide +kernel
theorem dL_law_374 : decode cL_law 374 = .ok (.aload_n 0, 1) := by decide +kernel
theorem dL_law_375 : decode cL_law 375 = .ok (.iload_n 3, 1) := by decide +kernel
theorem dL_law_376 : decode cL_law 376 = .ok (.iconst 2, 1) := by decide +kernel
theorem dL_law_377 : decode cL_law 377 = .ok (.iadd, 1) := by decide +kernel
theorem dL_law_378 : decode cL_law 378 = .ok (.iaload, 1) := by decide +kernel
theorem dL_law_379 : decode cL_law 379 = .ok (.invokevirtual 43, 3) := by decide +kernel
theorem dL_law_382 : decode cL_law 382 = .ok (.if_icmp .eq 405, 3) := by decide +kernel
theorem dL_law_385 : decode cL_law 385 = .ok (.iconst 0, 1) := by decide +kernel
theorem dL_law_386 : decode cL_law 386 = .ok (.ireturn, 1) := by decide +kernel
theorem dL_law_387 : decode cL_law 387 = .ok (.aload_n 1, 1) := by decide +kernel
theorem dL_law_388 : decode cL_law 388 = .ok (.aload_n 0, 1) := by decide +kernel
theorem dL_law_389 : decode cL_law 389 = .ok (.iload_n 3, 1) := by decide +kernel
theorem dL_law_390 : decode cL_law 390 = .ok (.iconst 1, 1) := by decide +kernel
theorem dL_law_391 : decode cL_law 391 = .ok (.iadd, 1) := by decide +kernel
theorem dL_law_392 : decode cL_law 392 = .ok (.iaload, 1) := by decide +kernel
theorem dL_law_393 : decode cL_law 393 = .ok (.aload_n 0, 1) := by decide +kernel
theorem dL_law_394 : decode cL_law 394 = .ok (.iload_n 3, 1) := by decide +kernel
theorem dL_law_395 : decode cL_law 395 = .ok (.iconst 2, 1) := by decide +kernel
theorem dL_law_396 : decode cL_law 396 = .ok (.iadd, 1) := by decide +kernel
theorem dL_law_397 : decode cL_law 397 = .ok (.iaload, 1) := by decide +kernel
theorem dL_law_398 : decode cL_law 398 = .ok (.aload_n 0, 1) := by decide +kernel
theorem dL_law_399 : decode cL_law 399 = .ok (.iload_n 3, 1) := by decide +kernel
theorem dL_law_400 : decode cL_law 400 = .ok (.iconst 3, 1) := by decide +kernel
theorem dL_law_401 : decode cL_law 401 = .ok (.iadd, 1) := by decide +kernel
theorem dL_law_402 : decode cL_law 402 = .ok (.iaload, 1) := by decide +kernel
theorem dL_law_403 : decode cL_law 403 = .ok (.aload_n 0, 1) := by decide +kernel
theorem dL_law_404 : decode cL_law 404 = .ok (.iload_n 3, 1) := by decide +kernel
theorem dL_law_405 : decode cL_law 405 = .ok (.iconst 4, 1) := by decide +kernel
theorem dL_law_406 : decode cL_law 406 = .ok (.iadd, 1) := by decide +kernel
theorem dL_law_407 : decode cL_law 407 = .ok (.iaload, 1) := by decide +kernel
theorem dL_law_408 : decode cL_law 408 = .ok (.invokevirtual 44, 3) := by decide +kernel
theorem dL_law_411 : decode cL_law 411 = .ok (.aload_n 2, 1) := by decide +kernel
theorem dL_law_412 : decode cL_law 412 = .ok (.aload_n 0, 1) := by decide +kernel
theorem dL_law_413 : decode cL_law 413 = .ok (.iload_n 3, 1) := by decide +kernel
theorem dL_law_414 : decode cL_law 414 = .ok (.iconst 1, 1) := by decide +kernel
theorem dL_law_415 : decode cL_law 415 = .ok (.iadd, 1) := by decide +kernel
theorem dL_law_416 : decode cL_law 416 = .ok (.iaload, 1) := by decide +kernel
theorem dL_law_417 : decode cL_law 417 = .ok (.aload_n 0, 1) := by decide +kernel
theorem dL_law_418 : decode cL_law 418 = .ok (.iload_n 3, 1) := by decide +kernel
theorem dL_law_419 : decode cL_law 419 = .ok (.iconst 2, 1) := by decide +kernel
theorem dL_law_420 : decode cL_law 420 = .ok (.iadd, 1) := by decide +kernel
theorem dL_law_421 : decode cL_law 421 = .ok (.iaload, 1) := by decide +kernel
theorem dL_law_422 : decode cL_law 422 = .ok (.aload_n 0, 1) := by decide +kernel
theorem dL_law_423 : decode cL_law 423 = .ok (.iload_n 3, 1) := by decide +kernel
theorem dL_law_424 : decode cL_law 424 = .ok (.iconst 3, 1) := by decide +kernel
theorem dL_law_425 : decode cL_law 425 = .ok (.iadd, 1) := by decide +kernel
theorem dL_law_426 : decode cL_law 426 = .ok (.iaload, 1) := by decide +kernel
theorem dL_law_427 : decode cL_law 427 = .ok (.aload_n 0, 1) := by decide +kernel
theorem dL_law_428 : decode cL_law 428 = .ok (.iload_n 3, 1) := by decide +kernel
theorem dL_law_429 : decode cL_law 429 = .ok (.iconst 4, 1) := by decide +kernel
theorem dL_law_430 : decode cL_law 430 = .ok (.iadd, 1) := by decide +kernel
theorem dL_law_431 : decode cL_law 431 = .ok (.iaload, 1) := by decide +kernel
theorem dL_law_432 : decode cL_law 432 = .ok (.invokevirtual 48, 3) := by decide +kernel
theorem dL_law_435 : decode cL_law 435 = .ok (.if_icmp .eq 352, 3) := by decide +kernel
theorem dL_law_438 : decode cL_law 438 = .ok (.iconst 0, 1) := by decide +kernel
theorem dL_law_439 : decode cL_law 439 = .ok (.ireturn, 1) := by decide +kernel
theorem dL_law_440 : decode cL_law 440 = .ok (.aload_n 1, 1) := by decide +kernel
theorem dL_law_441 : decode cL_law 441 = .ok (.aload_n 0, 1) := by decide +kernel
theorem dL_law_442 : decode cL_law 442 = .ok (.iload_n 3, 1) := by decide +kernel
theorem dL_law_443 : decode cL_law 443 = .ok (.iconst 1, 1) := by decide +kernel
theorem dL_law_444 : decode cL_law 444 = .ok (.iadd, 1) := by decide +kernel
theorem dL_law_445 : decode cL_law 445 = .ok (.iaload, 1) := by decide +kernel
theorem dL_law_446 : decode cL_law 446 = .ok (.aload_n 0, 1) := by decide +kernel
theorem dL_law_447 : decode cL_law 447 = .ok (.iload_n 3, 1) := by decide +kernel
theorem dL_law_448 : decode cL_law 448 = .ok (.iconst 2, 1) := by decide +kernel
theorem dL_law_449 : decode cL_law 449 = .ok (.iadd, 1) := by decide +kernel
theorem dL_law_450 : decode cL_law 450 = .ok (.iaload, 1) := by decide +kernel
theorem dL_law_451 : decode cL_law 451 = .ok (.aload_n 0, 1) := by decide +kernel
theorem dL_law_452 : decode cL_law 452 = .ok (.iload_n 3, 1) := by decide +kernel
theorem dL_law_453 : decode cL_law 453 = .ok (.iconst 3, 1) := by decide +kernel
theorem dL_law_454 : decode cL_law 454 = .ok (.iadd, 1) := by decide +kernel
theorem dL_law_455 : decode cL_law 455 = .ok (.iaload, 1) := by decide +kernel
theorem dL_law_456 : decode cL_law 456 = .ok (.invokevirtual 49, 3) := by decide +kernel
theorem dL_law_459 : decode cL_law 459 = .ok (.aload_n 2, 1) := by decide +kernel
theorem dL_law_460 : decode cL_law 460 = .ok (.aload_n 0, 1) := by decide +kernel
theorem dL_law_461 : decode cL_law 461 = .ok (.iload_n 3, 1) := by decide +kernel
theorem dL_law_462 : decode cL_law 462 = .ok (.iconst 1, 1) := by decide +kernel
theorem dL_law_463 : decode cL_law 463 = .ok (.iadd, 1) := by decide +kernel
theorem dL_law_464 : decode cL_law 464 = .ok (.iaload, 1) := by decide +kernel
theorem dL_law_465 : decode cL_law 465 = .ok (.aload_n 0, 1) := by decide +kernel
theorem dL_law_466 : decode cL_law 466 = .ok (.iload_n 3, 1) := by decide +kernel
theorem dL_law_467 : decode cL_law 467 = .ok (.iconst 2, 1) := by decide +kernel
theorem dL_law_468 : decode cL_law 468 = .ok (.iadd, 1) := by decide +kernel
theorem dL_law_469 : decode cL_law 469 = .ok (.iaload, 1) := by decide +kernel
theorem dL_law_470 : decode cL_law 470 = .ok (.aload_n 0, 1) := by decide +kernel
theorem dL_law_471 : decode cL_law 471 = .ok (.iload_n 3, 1) := by decide +kernel
theorem dL_law_472 : decode cL_law 472 = .ok (.iconst 3, 1) := by decide +kernel
theorem dL_law_473 : decode cL_law 473 = .ok (.iadd, 1) := by decide +kernel
theorem dL_law_474 : decode cL_law 474 = .ok (.iaload, 1) := by decide +kernel
theorem dL_law_475 : decode cL_law 475 = .ok (.invokevirtual 53, 3) := by decide +kernel
theorem dL_law_478 : decode cL_law 478 = .ok (.if_icmp .eq 309, 3) := by decide +kernel
theorem dL_law_481 : decode cL_law 481 = .ok (.iconst 0, 1) := by decide +kernel
theorem dL_law_482 : decode cL_law 482 = .ok (.ireturn, 1) := by decide +kernel
theorem dL_law_483 : decode cL_law 483 = .ok (.aload_n 1, 1) := by decide +kernel
theorem dL_law_484 : decode cL_law 484 = .ok (.aload_n 0, 1) := by decide +kernel
theorem dL_law_485 : decode cL_law 485 = .ok (.iload_n 3, 1) := by decide +kernel
theorem dL_law_486 : decode cL_law 486 = .ok (.iconst 1, 1) := by decide +kernel
theorem dL_law_487 : decode cL_law 487 = .ok (.iadd, 1) := by decide +kernel
theorem dL_law_488 : decode cL_law 488 = .ok (.iaload, 1) := by decide +kernel
theorem dL_law_489 : decode cL_law 489 = .ok (.aload_n 0, 1) := by decide +kernel
theorem dL_law_490 : decode cL_law 490 = .ok (.iload_n 3, 1) := by decide +kernel
theorem dL_law_491 : decode cL_law 491 = .ok (.iconst 2, 1) := by decide +kernel
theorem dL_law_492 : decode cL_law 492 = .ok (.iadd, 1) := by decide +kernel
theorem dL_law_493 : decode cL_law 493 = .ok (.iaload, 1) := by decide +kernel
theorem dL_law_494 : decode cL_law 494 = .ok (.aload_n 0, 1) := by decide +kernel
theorem dL_law_495 : decode cL_law 495 = .ok (.iload_n 3, 1) := by decide +kernel
theorem dL_law_496 : decode cL_law 496 = .ok (.iconst 3, 1) := by decide +kernel
theorem dL_law_497 : decode cL_law 497 = .ok (.iadd, 1) := by decide +kernel
theorem dL_law_498 : decode cL_law 498 = .ok (.iaload, 1) := by decide +kernel
theorem dL_law_499 : decode cL_law 499 = .ok (.aload_n 0, 1) := by decide +kernel
theorem dL_law_500 : decode cL_law 500 = .ok (.iload_n 3, 1) := by decide +kernel
theorem dL_law_501 : decode cL_law 501 = .ok (.iconst 4, 1) := by decide +kernel
theorem dL_law_502 : decode cL_law 502 = .ok (.iadd, 1) := by decide +kernel
theorem dL_law_503 : decode cL_law 503 = .ok (.iaload, 1) := by decide +kernel
theorem dL_law_504 : decode cL_law 504 = .ok (.invokevirtual 54, 3) := by decide +kernel
theorem dL_law_507 : decode cL_law 507 = .ok (.aload_n 2, 1) := by decide +kernel
theorem dL_law_508 : decode cL_law 508 = .ok (.aload_n 0, 1) := by decide +kernel
theorem dL_law_509 : decode cL_law 509 = .ok (.iload_n 3, 1) := by decide +kernel
theorem dL_law_510 : decode cL_law 510 = .ok (.iconst 1, 1) := by decide +kernel
theorem dL_law_511 : decode cL_law 511 = .ok (.iadd, 1) := by decide +kernel
theorem dL_law_512 : decode cL_law 512 = .ok (.iaload, 1) := by decide +kernel
theorem dL_law_513 : decode cL_law 513 = .ok (.aload_n 0, 1) := by decide +kernel
theorem dL_law_514 : decode cL_law 514 = .ok (.iload_n 3, 1) := by decide +kernel
theorem dL_law_515 : decode cL_law 515 = .ok (.iconst 2, 1) := by decide +kernel
theorem dL_law_516 : decode cL_law 516 = .ok (.iadd, 1) := by decide +kernel
theorem dL_law_517 : decode cL_law 517 = .ok (.iaload, 1) := by decide +kernel
theorem dL_law_518 : decode cL_law 518 = .ok (.aload_n 0, 1) := by decide +kernel
theorem dL_law_519 : decode cL_law 519 = .ok (.iload_n 3, 1) := by decide +kernel
theorem dL_law_520 : decode cL_law 520 = .ok (.iconst 3, 1) := by decide +kernel
theorem dL_law_521 : decode cL_law 521 = .ok (.iadd, 1) := by decide +kernel
theorem dL_law_522 : decode cL_law 522 = .ok (.iaload, 1) := by decide +kernel
theorem dL_law_523 : decode cL_law 523 = .ok (.aload_n 0, 1) := by decide +kernel
theorem dL_law_524 : decode cL_law 524 = .ok (.iload_n 3, 1) := by decide +kernel
theorem dL_law_525 : decode cL_law 525 = .ok (.iconst 4, 1) := by decide +kernel
theorem dL_law_526 : decode cL_law 526 = .ok (.iadd, 1) := by decide +kernel
theorem dL_law_527 : decode cL_law 527 = .ok (.iaload, 1) := by decide +kernel
theorem dL_law_528 : decode cL_law 528 = .ok (.invokevirtual 57, 3) := by decide +kernel
theorem dL_law_531 : decode cL_law 531 = .ok (.if_icmp .eq 256, 3) := by decide +kernel
theorem dL_law_534 : decode cL_law 534 = .ok (.iconst 0, 1) := by decide +kernel
theorem dL_law_535 : decode cL_law 535 = .ok (.ireturn, 1) := by decide +kernel
theorem dL_law_536 : decode cL_law 536 = .ok (.aload_n 1, 1) := by decide +kernel
theorem dL_law_537 : decode cL_law 537 = .ok (.aload_n 0, 1) := by decide +kernel
theorem dL_law_538 : decode cL_law 538 = .ok (.iload_n 3, 1) := by decide +kernel
theorem dL_law_539 : decode cL_law 539 = .ok (.iconst 1, 1) := by decide +kernel
theorem dL_law_540 : decode cL_law 540 = .ok (.iadd, 1) := by decide +kernel
theorem dL_law_541 : decode cL_law 541 = .ok (.iaload, 1) := by decide +kernel
theorem dL_law_542 : decode cL_law 542 = .ok (.aload_n 0, 1) := by decide +kernel
theorem dL_law_543 : decode cL_law 543 = .ok (.iload_n 3, 1) := by decide +kernel
theorem dL_law_544 : decode cL_law 544 = .ok (.iconst 2, 1) := by decide +kernel
theorem dL_law_545 : decode cL_law 545 = .ok (.iadd, 1) := by decide +kernel
theorem dL_law_546 : decode cL_law 546 = .ok (.iaload, 1) := by decide +kernel
theorem dL_law_547 : decode cL_law 547 = .ok (.aload_n 0, 1) := by decide +kernel
theorem dL_law_548 : decode cL_law 548 = .ok (.iload_n 3, 1) := by decide +kernel
theorem dL_law_549 : decode cL_law 549 = .ok (.iconst 3, 1) := by decide +kernel
theorem dL_law_550 : decode cL_law 550 = .ok (.iadd, 1) := by decide +kernel
theorem dL_law_551 : decode cL_law 551 = .ok (.iaload, 1) := by decide +kernel
theorem dL_law_552 : decode cL_law 552 = .ok (.invokevirtual 58, 3) := by decide +kernel
theorem dL_law_555 : decode cL_law 555 = .ok (.aload_n 2, 1) := by decide +kernel
theorem dL_law_556 : decode cL_law 556 = .ok (.aload_n 0, 1) := by decide +kernel
theorem dL_law_557 : decode cL_law 557 = .ok (.iload_n 3, 1) := by decide +kernel
theorem dL_law_558 : decode cL_law 558 = .ok (.iconst 1, 1) := by decide +kernel
theorem dL_law_559 : decode cL_law 559 = .ok (.iadd, 1) := by decide +kernel
theorem dL_law_560 : decode cL_law 560 = .ok (.iaload, 1) := by decide +kernel
theorem dL_law_561 : decode cL_law 561 = .ok (.aload_n 0, 1) := by decide +kernel
theorem dL_law_562 : decode cL_law 562 = .ok (.iload_n 3, 1) := by decide +kernel
theorem dL_law_563 : decode cL_law 563 = .ok (.iconst 2, 1) := by decide +kernel
theorem dL_law_564 : decode cL_law 564 = .ok (.iadd, 1) := by decide +kernel
theorem dL_law_565 : decode cL_law 565 = .ok (.iaload, 1) := by decide +kernel
theorem dL_law_566 : decode cL_law 566 = .ok (.aload_n 0, 1) := by decide +kernel
theorem dL_law_567 : decode cL_law 567 = .ok (.iload_n 3, 1) := by decide +kernel
theorem dL_law_568 : decode cL_law 568 = .ok (.iconst 3, 1) := by decide +kernel
theorem dL_law_569 : decode cL_law 569 = .ok (.iadd, 1) := by decide +kernel
theorem dL_law_570 : decode cL_law 570 = .ok (.iaload, 1) := by decide +kernel
theorem dL_law_571 : decode cL_law 571 = .ok (.invokevirtual 61, 3) := by decide +kernel
theorem dL_law_574 : decode cL_law 574 = .ok (.if_icmp .eq 213, 3) := by decide +kernel
theorem dL_law_577 : decode cL_law 577 = .ok (.iconst 0, 1) := by decide +kernel
theorem dL_law_578 : decode cL_law 578 = .ok (.ireturn, 1) := by decide +kernel
theorem dL_law_579 : decode cL_law 579 = .ok (.aload_n 1, 1) := by decide +kernel
theorem dL_law_580 : decode cL_law 580 = .ok (.aload_n 0, 1) := by decide +kernel
theorem dL_law_581 : decode cL_law 581 = .ok (.iload_n 3, 1) := by decide +kernel
theorem dL_law_582 : decode cL_law 582 = .ok (.iconst 1, 1) := by decide +kernel
theorem dL_law_583 : decode cL_law 583 = .ok (.iadd, 1) := by decide +kernel
theorem dL_law_584 : decode cL_law 584 = .ok (.iaload, 1) := by decide +kernel
theorem dL_law_585 : decode cL_law 585 = .ok (.aload_n 0, 1) := by decide +kernel
theorem dL_law_586 : decode cL_law 586 = .ok (.iload_n 3, 1) := by decide +kernel
theorem dL_law_587 : decode cL_law 587 = .ok (.iconst 2, 1) := by decide +kernel
theorem dL_law_588 : decode cL_law 588 = .ok (.iadd, 1) := by decide +kernel
theorem dL_law_589 : decode cL_law 589 = .ok (.iaload, 1) := by decide +kernel
theorem dL_law_590 : decode cL_law 590 = .ok (.aload_n 0, 1) := by decide +kernel
theorem dL_law_591 : decode cL_law 591 = .ok (.iload_n 3, 1) := by decide +kernel
theorem dL_law_592 : decode cL_law 592 = .ok (.iconst 3, 1) := by decide +kernel
theorem dL_law_593 : decode cL_law 593 = .ok (.iadd, 1) := by decide +kernel
theorem dL_law_594 : decode cL_law 594 = .ok (.iaload, 1) := by decide +kernel
theorem dL_law_595 : decode cL_law 595 = .ok (.aload_n 0, 1) := by decide +kernel
theorem dL_law_596 : decode cL_law 596 = .ok (.iload_n 3, 1) := by decide +kernel
theorem dL_law_597 : decode cL_law 597 = .ok (.iconst 4, 1) := by decide +kernel
theorem dL_law_598 : decode cL_law 598 = .ok (.iadd, 1) := by decide +kernel
theorem dL_law_599 : decode cL_law 599 = .ok (.iaload, 1) := by decide +kernel
theorem dL_law_600 : decode cL_law 600 = .ok (.invokevirtual 62, 3) := by decide +kernel
theorem dL_law_603 : decode cL_law 603 = .ok (.aload_n 2, 1) := by decide +kernel
theorem dL_law_604 : decode cL_law 604 = .ok (.aload_n 0, 1) := by decide +kernel
theorem dL_law_605 : decode cL_law 605 = .ok (.iload_n 3, 1) := by decide +kernel
theorem dL_law_606 : decode cL_law 606 = .ok (.iconst 1, 1) := by decide +kernel
theorem dL_law_607 : decode cL_law 607 = .ok (.iadd, 1) := by decide +kernel
theorem dL_law_608 : decode cL_law 608 = .ok (.iaload, 1) := by decide +kernel
theorem dL_law_609 : decode cL_law 609 = .ok (.aload_n 0, 1) := by decide +kernel
theorem dL_law_610 : decode cL_law 610 = .ok (.iload_n 3, 1) := by decide +kernel
theorem dL_law_611 : decode cL_law 611 = .ok (.iconst 2, 1) := by decide +kernel
theorem dL_law_612 : decode cL_law 612 = .ok (.iadd, 1) := by decide +kernel
theorem dL_law_613 : decode cL_law 613 = .ok (.iaload, 1) := by decide +kernel
theorem dL_law_614 : decode cL_law 614 = .ok (.aload_n 0, 1) := by decide +kernel
theorem dL_law_615 : decode cL_law 615 = .ok (.iload_n 3, 1) := by decide +kernel
theorem dL_law_616 : decode cL_law 616 = .ok (.iconst 3, 1) := by decide +kernel
theorem dL_law_617 : decode cL_law 617 = .ok (.iadd, 1) := by decide +kernel
theorem dL_law_618 : decode cL_law 618 = .ok (.iaload, 1) := by decide +kernel
theorem dL_law_619 : decode cL_law 619 = .ok (.aload_n 0, 1) := by decide +kernel
theorem dL_law_620 : decode cL_law 620 = .ok (.iload_n 3, 1) := by decide +kernel
theorem dL_law_621 : decode cL_law 621 = .ok (.iconst 4, 1) := by decide +kernel
theorem dL_law_622 : decode cL_law 622 = .ok (.iadd, 1) := by decide +kernel
theorem dL_law_623 : decode cL_law 623 = .ok (.iaload, 1) := by decide +kernel
theorem dL_law_624 : decode cL_law 624 = .ok (.invokevirtual 65, 3) := by decide +kernel
theorem dL_law_627 : decode cL_law 627 = .ok (.if_icmp .eq 160, 3) := by decide +kernel
theorem dL_law_630 : decode cL_law 630 = .ok (.iconst 0, 1) := by decide +kernel
theorem dL_law_631 : decode cL_law 631 = .ok (.ireturn, 1) := by decide +kernel
theorem dL_law_632 : decode cL_law 632 = .ok (.aload_n 1, 1) := by decide +kernel
theorem dL_law_633 : decode cL_law 633 = .ok (.aload_n 0, 1) := by decide +kernel
theorem dL_law_634 : decode cL_law 634 = .ok (.iload_n 3, 1) := by decide +kernel
theorem dL_law_635 : decode cL_law 635 = .ok (.iconst 1, 1) := by decide +kernel
theorem dL_law_636 : decode cL_law 636 = .ok (.iadd, 1) := by decide +kernel
theorem dL_law_637 : decode cL_law 637 = .ok (.iaload, 1) := by decide +kernel
theorem dL_law_638 : decode cL_law 638 = .ok (.aload_n 0, 1) := by decide +kernel
theorem dL_law_639 : decode cL_law 639 = .ok (.iload_n 3, 1) := by decide +kernel
theorem dL_law_640 : decode cL_law 640 = .ok (.iconst 2, 1) := by decide +kernel
theorem dL_law_641 : decode cL_law 641 = .ok (.iadd, 1) := by decide +kernel
theorem dL_law_642 : decode cL_law 642 = .ok (.iaload, 1) := by decide +kernel
theorem dL_law_643 : decode cL_law 643 = .ok (.aload_n 0, 1) := by decide +kernel
theorem dL_law_644 : decode cL_law 644 = .ok (.iload_n 3, 1) := by decide +kernel
theorem dL_law_645 : decode cL_law 645 = .ok (.iconst 3, 1) := by decide +kernel
theorem dL_law_646 : decode cL_law 646 = .ok (.iadd, 1) := by decide +kernel
theorem dL_law_647 : decode cL_law 647 = .ok (.iaload, 1) := by decide +kernel
theorem dL_law_648 : decode cL_law 648 = .ok (.aload_n 0, 1) := by decide +kernel
theorem dL_law_649 : decode cL_law 649 = .ok (.iload_n 3, 1) := by decide +kernel
theorem dL_law_650 : decode cL_law 650 = .ok (.iconst 4, 1) := by decide +kernel
theorem dL_law_651 : decode cL_law 651 = .ok (.iadd, 1) := by decide +kernel
theorem dL_law_652 : decode cL_law 652 = .ok (.iaload, 1) := by decide +kernel
theorem dL_law_653 : decode cL_law 653 = .ok (.invokevirtual 66, 3) := by decide +kernel
theorem dL_law_656 : decode cL_law 656 = .ok (.aload_n 2, 1) := by decide +kernel
theorem dL_law_657 : decode cL_law 657 = .ok (.aload_n 0, 1) := by decide +kernel
theorem dL_law_658 : decode cL_law 658 = .ok (.iload_n 3, 1) := by decide +kernel
theorem dL_law_659 : decode cL_law 659 = .ok (.iconst 1, 1) := by decide +kernel
theorem dL_law_660 : decode cL_law 660 = .ok (.iadd, 1) := by decide +kernel
theorem dL_law_661 : decode cL_law 661 = .ok (.iaload, 1) := by decide +kernel
theorem dL_law_662 : decode cL_law 662 = .ok (.aload_n 0, 1) := by decide +kernel
theorem dL_law_663 : decode cL_law 663 = .ok (.iload_n 3, 1) := by decide +kernel
theorem dL_law_664 : decode cL_law 664 = .ok (.iconst 2, 1) := by decide +kernel
theorem dL_law_665 : decode cL_law 665 = .ok (.iadd, 1) := by decide +kernel
theorem dL_law_666 : decode cL_law 666 = .ok (.iaload, 1) := by decide +kernel
theorem dL_law_667 : decode cL_law 667 = .ok (.aload_n 0, 1) := by decide +kernel
theorem dL_law_668 : decode cL_law 668 = .ok (.iload_n 3, 1) := by decide +kernel
theorem dL_law_669 : decode cL_law 669 = .ok (.iconst 3, 1) := by decide +kernel
theorem dL_law_670 : decode cL_law 670 = .ok (.iadd, 1) := by decide +kernel
theorem dL_law_671 : decode cL_law 671 = .ok (.iaload, 1) := by decide +kernel
theorem dL_law_672 : decode cL_law 672 = .ok (.aload_n 0, 1) := by decide +kernel
theorem dL_law_673 : decode cL_law 673 = .ok (.iload_n 3, 1) := by decide +kernel
theorem dL_law_674 : decode cL_law 674 = .ok (.iconst 4, 1) := by decide +kernel
theorem dL_law_675 : decode cL_law 675 = .ok (.iadd, 1) := by decide +kernel
theorem dL_law_676 : decode cL_law 676 = .ok (.iaload, 1) := by decide +kernel
theorem dL_law_677 : decode cL_law 677 = .ok (.invokevirtual 69, 3) := by decide +kernel
theorem dL_law_680 : decode cL_law 680 = .ok (.if_icmp .eq 107, 3) := by decide +kernel
theorem dL_law_683 : decode cL_law 683 = .ok (.iconst 0, 1) := by decide +kernel
theorem dL_law_684 : decode cL_law 684 = .ok (.ireturn, 1) := by decide +kernel
theorem dL_law_685 : decode cL_law 685 = .ok (.aload_n 1, 1) := by decide +kernel
theorem dL_law_686 : decode cL_law 686 = .ok (.aload_n 0, 1) := by decide +kernel
theorem dL_law_687 : decode cL_law 687 = .ok (.iload_n 3, 1) := by decide +kernel
theorem dL_law_688 : decode cL_law 688 = .ok (.iconst 1, 1) := by decide +kernel
theorem dL_law_689 : decode cL_law 689 = .ok (.iadd, 1) := by decide +kernel
theorem dL_law_690 : decode cL_law 690 = .ok (.iaload, 1) := by decide +kernel
theorem dL_law_691 : decode cL_law 691 = .ok (.aload_n 0, 1) := by decide +kernel
theorem dL_law_692 : decode cL_law 692 = .ok (.iload_n 3, 1) := by decide +kernel
theorem dL_law_693 : decode cL_law 693 = .ok (.iconst 2, 1) := by decide +kernel
theorem dL_law_694 : decode cL_law 694 = .ok (.iadd, 1) := by decide +kernel
theorem dL_law_695 : decode cL_law 695 = .ok (.iaload, 1) := by decide +kernel
theorem dL_law_696 : decode cL_law 696 = .ok (.invokevirtual 70, 3) := by decide +kernel
theorem dL_law_699 : decode cL_law 699 = .ok (.aload_n 2, 1) := by decide +kernel
theorem dL_law_700 : decode cL_law 700 = .ok (.aload_n 0, 1) := by decide +kernel
theorem dL_law_701 : decode cL_law 701 = .ok (.iload_n 3, 1) := by decide +kernel
theorem dL_law_702 : decode cL_law 702 = .ok (.iconst 1, 1) := by decide +kernel
theorem dL_law_703 : decode cL_law 703 = .ok (.iadd, 1) := by decide +kernel
theorem dL_law_704 : decode cL_law 704 = .ok (.iaload, 1) := by decide +kernel
theorem dL_law_705 : decode cL_law 705 = .ok (.aload_n 0, 1) := by decide +kernel
theorem dL_law_706 : decode cL_law 706 = .ok (.iload_n 3, 1) := by decide +kernel
theorem dL_law_707 : decode cL_law 707 = .ok (.iconst 2, 1) := by decide +kernel
theorem dL_law_708 : decode cL_law 708 = .ok (.iadd, 1) := by decide +kernel
theorem dL_law_709 : decode cL_law 709 = .ok (.iaload, 1) := by decide +kernel
theorem dL_law_710 : decode cL_law 710 = .ok (.invokevirtual 73, 3) := by decide +kernel
theorem dL_law_713 : decode cL_law 713 = .ok (.if_icmp .eq 74, 3) := by decide +kernel
theorem dL_law_716 : decode cL_law 716 = .ok (.iconst 0, 1) := by decide +kernel
theorem dL_law_717 : decode cL_law 717 = .ok (.ireturn, 1) := by decide +kernel
theorem dL_law_718 : decode cL_law 718 = .ok (.aload_n 1, 1) := by decide +kernel
theorem dL_law_719 : decode cL_law 719 = .ok (.aload_n 0, 1) := by decide +kernel
theorem dL_law_720 : decode cL_law 720 = .ok (.iload_n 3, 1) := by decide +kernel
theorem dL_law_721 : decode cL_law 721 = .ok (.iconst 1, 1) := by decide +kernel
theorem dL_law_722 : decode cL_law 722 = .ok (.iadd, 1) := by decide +kernel
theorem dL_law_723 : decode cL_law 723 = .ok (.iaload, 1) := by decide +kernel
theorem dL_law_724 : decode cL_law 724 = .ok (.invokevirtual 74, 3) := by decide +kernel
theorem dL_law_727 : decode cL_law 727 = .ok (.aload_n 2, 1) := by decide +kernel
theorem dL_law_728 : decode cL_law 728 = .ok (.aload_n 0, 1) := by decide +kernel
theorem dL_law_729 : decode cL_law 729 = .ok (.iload_n 3, 1) := by decide +kernel
theorem dL_law_730 : decode cL_law 730 = .ok (.iconst 1, 1) := by decide +kernel
theorem dL_law_731 : decode cL_law 731 = .ok (.iadd, 1) := by decide +kernel
theorem dL_law_732 : decode cL_law 732 = .ok (.iaload, 1) := by decide +kernel
theorem dL_law_733 : decode cL_law 733 = .ok (.invokevirtual 77, 3) := by decide +kernel
theorem dL_law_736 : decode cL_law 736 = .ok (.if_icmp .eq 51, 3) := by decide +kernel
theorem dL_law_739 : decode cL_law 739 = .ok (.iconst 0, 1) := by decide +kernel
theorem dL_law_740 : decode cL_law 740 = .ok (.ireturn, 1) := by decide +kernel
theorem dL_law_741 : decode cL_law 741 = .ok (.aload_n 1, 1) := by decide +kernel
theorem dL_law_742 : decode cL_law 742 = .ok (.aload_n 0, 1) := by decide +kernel
theorem dL_law_743 : decode cL_law 743 = .ok (.iload_n 3, 1) := by decide +kernel
theorem dL_law_744 : decode cL_law 744 = .ok (.iconst 1, 1) := by decide +kernel
theorem dL_law_745 : decode cL_law 745 = .ok (.iadd, 1) := by decide +kernel
theorem dL_law_746 : decode cL_law 746 = .ok (.iaload, 1) := by decide +kernel
theorem dL_law_747 : decode cL_law 747 = .ok (.invokevirtual 78, 3) := by decide +kernel
theorem dL_law_750 : decode cL_law 750 = .ok (.aload_n 2, 1) := by decide +kernel
theorem dL_law_751 : decode cL_law 751 = .ok (.aload_n 0, 1) := by decide +kernel
theorem dL_law_752 : decode cL_law 752 = .ok (.iload_n 3, 1) := by decide +kernel
theorem dL_law_753 : decode cL_law 753 = .ok (.iconst 1, 1) := by decide +kernel
theorem dL_law_754 : decode cL_law 754 = .ok (.iadd, 1) := by decide +kernel
theorem dL_law_755 : decode cL_law 755 = .ok (.iaload, 1) := by decide +kernel
theorem dL_law_756 : decode cL_law 756 = .ok (.invokevirtual 81, 3) := by decide +kernel
theorem dL_law_759 : decode cL_law 759 = .ok (.if_icmp .eq 28, 3) := by decide +kernel
theorem dL_law_762 : decode cL_law 762 = .ok (.iconst 0, 1) := by decide +kernel
theorem dL_law_763 : decode cL_law 763 = .ok (.ireturn, 1) := by decide +kernel
theorem dL_law_764 : decode cL_law 764 = .ok (.aload_n 1, 1) := by decide +kernel
theorem dL_law_765 : decode cL_law 765 = .ok (.aload_n 0, 1) := by decide +kernel
theorem dL_law_766 : decode cL_law 766 = .ok (.iload_n 3, 1) := by decide +kernel
theorem dL_law_767 : decode cL_law 767 = .ok (.iconst 1, 1) := by decide +kernel
theorem dL_law_768 : decode cL_law 768 = .ok (.iadd, 1) := by decide +kernel
theorem dL_law_769 : decode cL_law 769 = .ok (.iaload, 1) := by decide +kernel
theorem dL_law_770 : decode cL_law 770 = .ok (.invokevirtual 82, 3) := by decide +kernel
theorem dL_law_773 : decode cL_law 773 = .ok (.aload_n 2, 1) := by decide +kernel
theorem dL_law_774 : decode cL_law 774 = .ok (.aload_n 0, 1) := by decide +kernel
theorem dL_law_775 : decode cL_law 775 = .ok (.iload_n 3, 1) := by decide +kernel
theorem dL_law_776 : decode cL_law 776 = .ok (.iconst 1, 1) := by decide +kernel
theorem dL_law_777 : decode cL_law 777 = .ok (.iadd, 1) := by decide +kernel
theorem dL_law_778 : decode cL_law 778 = .ok (.iaload, 1) := by decide +kernel
theorem dL_law_779 : decode cL_law 779 = .ok (.invokevirtual 85, 3) := by decide +kernel
theorem dL_law_782 : decode cL_law 782 = .ok (.if_icmp .eq 5, 3) := by decide +kernel
theorem dL_law_785 : decode cL_law 785 = .ok (.iconst 0, 1) := by decide +kernel
theorem dL_law_786 : decode cL_law 786 = .ok (.ireturn, 1) := by decide +kernel
theorem dL_law_787 : decode cL_law 787 = .ok (.iinc 3 6, 3) := by decide +kernel
theorem dL_law_790 : decode cL_law 790 = .ok (.goto (-772), 3) := by decide +kernel
theorem dL_law_793 : decode cL_law 793 = .ok (.iconst 1, 1) := by decide +kernel
theorem dL_law_794 : decode cL_law 794 = .ok (.ireturn, 1) := by decide +kernel
abbrev vwCl : List vw_C := [(RX0, TX0, 5), (RX1, TX1, 11), (RX2, TX2, 4), (RX3, TX3, 6), (RX4, TX4, 8)]
end
section
/-! ===== the words of nest mates, carried by every contract ===== -/
def nsW : List Cond := [.methodLinkNest RX3 9 yX0_init RX3, .fieldLinkNest RX0 18 "LightBursts" "RULE_AT_FIRST" "[I" RX3, .fieldLinkNest RX3 68 "LightBursts$Book" "now" "I" RX3, .fieldLinkNest RX1 108 "LightBursts$Book" "now" "I" RX3, .fieldLinkNest RX3 78 "LightBursts$Book" "told" "I" RX3, .fieldLinkNest RX3 53 "LightBursts$Book" "rules" "[I" RX3, .fieldLinkNest RX3 71 "LightBursts$Book" "lengths" "[I" RX3, .methodLinkNest RX3 28 yX2_init RX3, .methodLinkNest RX3 35 yX1_init RX3, .fieldLinkNest RX3 97 "LightBursts$Placer" "fate" "I" RX3, .methodLinkNest RX3 60 yX0_showLine RX3, .methodLinkNest RX0 54 yX2_clear RX3, .methodLinkNest RX0 42 yX3_isBelow RX3, .methodLinkNest RX0 63 yX2_add RX3, .methodLinkNest RX2 25 yX3_isBelow RX3, .methodLinkNest RX3 64 yX2_lastEnd RX3, .methodLinkNest RX3 81 yX0_comingTick RX3, .methodLinkNest RX3 85 yX1_place RX3, .methodLinkNest RX1 57 yX0_ruleNow RX3, .methodLinkNest RX1 83 yX0_showColour RX3, .methodLinkNest RX1 104 yX2_isFree RX3, .methodLinkNest RX1 111 yX2_lastEndUpTo RX3, .methodLinkNest RX1 73 yX0_lengthNow RX3, .methodLinkNest RX1 115 yX0_showLine RX3, .methodLinkNest RX1 91 yX2_pieceBegin RX3, .methodLinkNest RX1 97 yX2_room RX3, .methodLinkNest RX3 89 yX0_setFact RX3, .methodLinkNest RX3 93 yX1_writeTo RX3, .methodLinkNest RX1 66 yX0_setFact RX3, .methodLinkNest RX3 100 yX0_fact RX3, .methodLinkNest RX3 103 yX0_takeBack RX3, .methodLinkNest RX3 109 yX0_showColour RX3, .methodLinkNest RX3 135 yX2_begin RX3, .methodLinkNest RX3 172 yX2_ticks RX3, .methodLinkNest RX3 175 yX2_burstOf RX3, .methodLinkNest RX3 119 yX2_bookedTicks RX3, .methodLinkNest RX3 122 yX2_isFree RX3, .methodLinkNest RX3 126 yX2_firstFree RX3, .methodLinkNest RX3 129 yX2_closingOfVoid RX3, .methodLinkNest RX3 132 yX2_voidBefore RX3, .methodLinkNest RX3 139 yX0_burstsOfClass RX3, .methodLinkNest RX3 142 yX0_sumOfClass RX3, .methodLinkNest RX3 145 yX0_lostOfClass RX3, .methodLinkNest RX3 152 yX0_burstsOfFate RX3, .methodLinkNest RX3 155 yX0_ruleNow RX3, .methodLinkNest RX3 158 yX0_lengthNow RX3, .methodLinkNest RX3 161 yX0_burstsWith RX3, .methodLinkNest RX3 168 yX0_copyFrom RX3]
def nsIs : Cond → Bool
  | .fieldLinkNest _ _ _ _ _ _ => true
  | .methodLinkNest _ _ _ _ => true
  | _ => false
theorem nsW_is : ∀ w ∈ nsW, nsIs w = true := by
  intro w hw
  have h : nsW.all nsIs = true := rfl
  exact List.all_eq_true.mp h w hw
theorem nsW_on : ∀ w ∈ nsW, w.onTables = true := by
  intro w hw
  have h : nsW.all Cond.onTables = true := rfl
  exact List.all_eq_true.mp h w hw
set_option maxRecDepth 20000 in
theorem nsW_in : ∀ w ∈ nsW, w ∈ lw_tbl := wl_mem [82, 86, 96, 97, 99, 101, 103, 119, 138, 149, 214, 218, 226, 227, 231, 232, 254, 262, 285, 286, 294, 308, 320, 328, 333, 337, 338, 342, 346, 355, 356, 369, 374, 378, 382, 397, 405, 410, 418, 426, 431, 439, 443, 458, 466, 467, 468, 480] rfl
def nst (U : State) : Prop := ∀ w ∈ nsW, va_Nw w U
theorem nst_same {u U : State} (h : u.vm = U.vm) (hn : nst u) : nst U := fun w hw => va_Nw.same (nsW_on w hw) h (hn w hw)
theorem nst_warm {s U : State} (hW : s.WarmedH U.vm) (hn : nst s) : nst U := by
  intro w hw
  have h1 := nsW_is w hw
  have h2 := hn w hw
  cases w <;> first | exact va_Nw.warmF hW h2 | exact va_Nw.warmM hW h2 | (simp [nsIs] at h1; done)
theorem nst_of {args : Array Value} {s : State} (h : ∀ w ∈ lw_tbl, w.before args s = true) : nst s := fun w hw => va_Nw.of (nsW_on w hw) (h w (nsW_in w hw))
/-! ===== worlds ===== -/
abbrev tyA (cA cZ : ClassId) : List (ClassId × FieldType) := [(cA, .int), (cZ, .boolean)]
abbrev BKw (cA : ClassId) (aB aR aL aF : Nat) (now told : Int32) (rf lf ff : Nat → Int32) : va_W := [(aB, .inr (0, [.int now, .int told, .ref aR, .ref aL, .ref aF])), (aR, .inl (cA, 6, .inl rf)), (aL, .inl (cA, 3, .inl lf)), (aF, .inl (cA, 528, .inl ff))]
abbrev TRw (cA : ClassId) (aT aU aG aE : Nat) (sz : Int32) (bf gf ef : Nat → Int32) : va_W := [(aT, .inr (2, [.int sz, .ref aU, .ref aG, .ref aE])), (aU, .inl (cA, 48, .inl bf)), (aG, .inl (cA, 48, .inl gf)), (aE, .inl (cA, 48, .inl ef))]
abbrev PLw (aP aB aT : Nat) (q0 q1 q2 q3 q4 q5 q6 q7 q8 : Int32) : va_W := [(aP, .inr (1, [.ref aB, .ref aT, .int q0, .int q1, .int q2, .int q3, .int q4, .int q5, .int q6, .int q7, .int q8]))]
abbrev LBw (aX aB aB1 aB2 aT aP : Nat) (kp : Int32) : va_W := [(aX, .inr (3, [.ref aB, .ref aB1, .ref aB2, .int kp, .ref aT, .ref aP]))]
abbrev MDw (cA cZ : ClassId) (aM aS aI aK : Nat) (sf mf kf : Nat → Int32) (m0 m1 m2 m3 m4 : Int32) : va_W := [(aM, .inr (4, [.ref aS, .ref aI, .ref aK, .int m0, .int m1, .int m2, .int m3, .int m4])), (aS, .inl (cA, 539, .inl sf)), (aI, .inl (cA, 1078, .inl mf)), (aK, .inl (cZ, 2, .inl kf))]
/-! ===== contracts of one form, and their calls ===== -/
theorem fm_of {β : Type} {f : Nat → Option β} {is : List Nat} {w : List β} (h : is.map f = w.map some) : is.filterMap f = w := by
  have e : is.filterMap f = (is.map f).filterMap id := by rw [List.filterMap_map]; rfl
  rw [e, h, List.filterMap_map]
  induction w with
  | nil => rfl
  | cons a t ih => simp
abbrev cPre (D : va_G) (tys : List (ClassId × FieldType)) (av : List Value) (W0 : va_W) (sz : Nat) : Array Value → State → Prop := va_Pc av (fun U => U.heap.size = sz ∧ va_P D vwCl W0 U.heap ∧ va_K D vwCl tys U ∧ va_D (fun _ => True) W0 ∧ nst U)
abbrev cPi (D : va_G) (tys : List (ClassId × FieldType)) (W0 : va_W) (sz : Nat) (r0 : Int32) (W1 : va_W) (A : Nat → Prop) : Array Value → State → Outcome → State → Prop := va_Qi (S := Unit) (fun r _ => r = r0) (fun _ t => va_P D vwCl W1 t.heap ∧ va_K D vwCl tys t ∧ va_D A W1) A
abbrev cPv (D : va_G) (tys : List (ClassId × FieldType)) (W0 : va_W) (sz : Nat) (W1 : va_W) (A : Nat → Prop) : Array Value → State → Outcome → State → Prop := va_Qv (S := Unit) (fun _ => True) (fun _ t => va_P D vwCl W1 t.heap ∧ va_K D vwCl tys t ∧ va_D A W1) A
abbrev MetI (l : Launch) (y : MethodName) (ws : List Cond) (fr lo : Nat) (D : va_G) (tys : List (ClassId × FieldType)) (av : List Value) (W0 : va_W) (sz : Nat) (r0 : Int32) (W1 : va_W) : Prop := Met l y ws ({ frames := fr, cells := 0, slots := 0, locals := lo }) (cPre D tys av W0 sz) (cPi D tys W0 sz r0 W1 (va_A W0 sz)) 0 0 (va_A W0 sz)
abbrev MetV (l : Launch) (y : MethodName) (ws : List Cond) (fr lo : Nat) (D : va_G) (tys : List (ClassId × FieldType)) (av : List Value) (W0 : va_W) (sz : Nat) (W1 : va_W) : Prop := Met l y ws ({ frames := fr, cells := 0, slots := 0, locals := lo }) (cPre D tys av W0 sz) (cPv D tys W0 sz W1 (va_A W0 sz)) 0 0 (va_A W0 sz)
section CK
variable {p : Program} {l : Launch} {e : Env} {R : Room} {s : State} {m : MethodId} {args : Array Value} {below : List Frame} {meth : Method} {c : Code} {H : Heap} {locs : List Loc} {cells slots : Nat} {Q : State → Prop} {pc : Nat} {ls : Array Slot} {rest st0 : List Value} {D : va_G} {tys : List (ClassId × FieldType)} {W0 W1 wsx : va_W} {A : Nat → Prop} {a : Array Value}
theorem lv_eqi {x : Int32} (y : Int32) (h : x = y) (k : W p l e R s m args below meth c H locs cells slots Q (F0 m pc ls (.int y :: rest))) : W p l e R s m args below meth c H locs cells slots Q (F0 m pc ls (.int x :: rest)) := h ▸ k
theorem fblind {av : List Value} {W0 : va_W} {sz : Nat} : FrameBlind (cPre D tys av W0 sz) := fun a U g mk q => by
  obtain ⟨q0, q1, qP, qK, qD, qN⟩ := q
  exact ⟨q0, q1, qP, va_K.moved (u := U) (U := U.calling g mk a) (Vm.Alike.refl U.vm) qK, qD, nst_same (u := U) (U := U.calling g mk a) rfl qN⟩
theorem pre_at {av : List Value} (hP : va_P D vwCl wsx H) (hD : va_D A wsx) (hK : va_K D vwCl tys s) (hN : nst s) (isC : List Nat) (hC : isC.map (fun i => wsx[i]?) = W0.map some) (hnC : va_nd isC = true) : ∀ U : State, U.heap = H → s.WarmedH U.vm → cPre D tys av W0 H.size av.toArray U := fun U hU hW => ⟨rfl, by rw [hU], by rw [hU]; exact hP.sub isC (fm_of hC), va_K.moved hW.alike hK, (hD.sub isC hnC hC).weaken (fun _ _ _ _ => trivial), nst_warm hW hN⟩
theorem kI {wr wsN : va_W} {r0 : Int32} (hr : va_Run p l e R s m args below meth c H locs cells slots 0 0 (F0 m pc ls st0) rest (cPi D tys W0 H.size r0 W1 (va_A W0 H.size) a) (va_A W0 H.size)) (hP : va_P D vwCl wsx H) (hD : va_D A wsx) (hS : va_S A s.heap H locs) (hA : ∀ q, s.heap.size ≤ q → A q) (isC isR isN : List Nat) (hC : isC.map (fun i => wsx[i]?) = W0.map some) (hR : isR.map (fun i => wsx[i]?) = wr.map some) (hn : va_nd isR = true) (hdis : ∀ i ∈ isR, i ∉ isC) (hN : isN.map (fun i => (wr ++ W1)[i]?) = wsN.map some) (hnN : va_nd isN = true)
    (kk : ∀ (H1 : Heap) (locs1 : List Loc), va_P D vwCl wsN H1 → va_D A wsN → va_S A s.heap H1 locs1 → W p l e R s m args below meth c H1 locs1 cells slots Q (F0 m (pc + 3) ls (.int r0 :: rest))) : W p l e R s m args below meth c H locs cells slots Q (F0 m pc ls st0) := by
  have hFc := va_free (wc := W0) hD hS hA isC hC
  refine va_calli hr hS (fun q _ h => hFc q h) hFc (fun r u t H1 locs1 ht hvm hw hB hz1 hk1 hS1 => ?_)
  obtain ⟨hP1, hK1, hD1⟩ := hB
  rw [ht] at hP1
  obtain ⟨hPj, hDj⟩ := va_join (wr := wr) (w1 := W1) hP hD isC isR hC hR hn hdis hk1 hFc hP1 hD1
  subst hw
  exact kk H1 locs1 (hPj.sub isN (fm_of hN)) (hDj.sub isN hnN hN) hS1
theorem kV {wr wsN : va_W} (hr : va_Run p l e R s m args below meth c H locs cells slots 0 0 (F0 m pc ls st0) rest (cPv D tys W0 H.size W1 (va_A W0 H.size) a) (va_A W0 H.size)) (hP : va_P D vwCl wsx H) (hD : va_D A wsx) (hS : va_S A s.heap H locs) (hA : ∀ q, s.heap.size ≤ q → A q) (isC isR isN : List Nat) (hC : isC.map (fun i => wsx[i]?) = W0.map some) (hR : isR.map (fun i => wsx[i]?) = wr.map some) (hn : va_nd isR = true) (hdis : ∀ i ∈ isR, i ∉ isC) (hN : isN.map (fun i => (wr ++ W1)[i]?) = wsN.map some) (hnN : va_nd isN = true)
    (kk : ∀ (H1 : Heap) (locs1 : List Loc), va_P D vwCl wsN H1 → va_D A wsN → va_S A s.heap H1 locs1 → W p l e R s m args below meth c H1 locs1 cells slots Q (F0 m (pc + 3) ls rest)) : W p l e R s m args below meth c H locs cells slots Q (F0 m pc ls st0) := by
  have hFc := va_free (wc := W0) hD hS hA isC hC
  refine va_callv hr hS (fun q _ h => hFc q h) hFc (fun u t H1 locs1 ht hvm hw hB hz1 hk1 hS1 => ?_)
  obtain ⟨hP1, hK1, hD1⟩ := hB
  rw [ht] at hP1
  obtain ⟨hPj, hDj⟩ := va_join (wr := wr) (w1 := W1) hP hD isC isR hC hR hn hdis hk1 hFc hP1 hD1
  exact kk H1 locs1 (hPj.sub isN (fm_of hN)) (hDj.sub isN hnN hN) hS1
variable {y : MethodName} {bytes cc : ByteArray} {maxL nL n index : Nat} {ret : Option FieldType} {ws : List Cond} {rm : Room} {Qc : Array Value → State → Outcome → State → Prop} {free : Addr → Prop} {Ts : List Cond} {own C host : String} {b : Addr} {As : List Value}
theorem rV (S : CallFix p m c cc nL s args Ts own) (hM : Met l y ws rm (cPre D tys (.ref b :: As) W0 H.size) Qc 0 0 free) (cw : CallW R s args own C index y bytes maxL ret ws rm 0 0 n) (hP : va_P D vwCl wsx H) (hD : va_D A wsx) (hK : va_K D vwCl tys s) (hN : nst s) (isC : List Nat) (hC : isC.map (fun i => wsx[i]?) = W0.map some) (hnC : va_nd isC = true) (ci q0 : Nat) {fs : List Value} {T : u_T} {N : Nat} (hci : vwCl[ci]? = some (C, T, N)) (he : W0[q0]? = some (b, .inr (ci, fs))) (hn : As.length = n) (hsize : ls.size = nL) (hstack : st0 = As.reverse ++ .ref b :: rest) (hW : (rest.map fun v => v.category).sum ≤ 8) (hdg : decode cc pc = .ok (.invokevirtual index, 3)) (hf : cells + 0 ≤ R.cells ∧ slots + 0 ≤ R.slots) : va_Run p l e R s m args below meth c H locs cells slots 0 0 (F0 m pc ls st0) rest (Qc (Value.ref b :: As).toArray) free :=
  va_runV S hM cw ⟨fblind, va_recv hK (hP.sub isC (fm_of hC)) hci he, pre_at hP hD hK hN isC hC hnC⟩ rfl hn hsize hstack (lv_room hW) hdg hf
theorem rVN (S : CallFix p m c cc nL s args Ts own) (hM : Met l y ws rm (cPre D tys (.ref b :: As) W0 H.size) Qc 0 0 free) (cw : va_CN R s args own index y host bytes maxL ret ws rm 0 0 n ∧ (Cond.instanceMethod y).before args s = true ∧ (Cond.selects C y y).before args s = true) (hP : va_P D vwCl wsx H) (hD : va_D A wsx) (hK : va_K D vwCl tys s) (hN : nst s) (isC : List Nat) (hC : isC.map (fun i => wsx[i]?) = W0.map some) (hnC : va_nd isC = true) (ci q0 : Nat) {fs : List Value} {T : u_T} {N : Nat} (hci : vwCl[ci]? = some (C, T, N)) (he : W0[q0]? = some (b, .inr (ci, fs))) (hn : As.length = n) (hsize : ls.size = nL) (hstack : st0 = As.reverse ++ .ref b :: rest) (hW : (rest.map fun v => v.category).sum ≤ 8) (hdg : decode cc pc = .ok (.invokevirtual index, 3)) (hf : cells + 0 ≤ R.cells ∧ slots + 0 ≤ R.slots) : va_Run p l e R s m args below meth c H locs cells slots 0 0 (F0 m pc ls st0) rest (Qc (Value.ref b :: As).toArray) free :=
  va_runVN S hM cw ⟨fblind, va_recv hK (hP.sub isC (fm_of hC)) hci he, pre_at hP hD hK hN isC hC hnC⟩ rfl hn hsize hstack (lv_room hW) hdg hf
theorem rS (S : CallFix p m c cc nL s args Ts own) (hM : Met l y ws rm (cPre D tys As W0 H.size) Qc 0 0 free) (cw : CallB R s args own index y bytes maxL ret ws rm 0 0 n ∧ (Cond.static y).before args s = true) (hP : va_P D vwCl wsx H) (hD : va_D A wsx) (hK : va_K D vwCl tys s) (hN : nst s) (isC : List Nat) (hC : isC.map (fun i => wsx[i]?) = W0.map some) (hnC : va_nd isC = true) (hn : As.length = n) (hsize : ls.size = nL) (hstack : st0 = As.reverse ++ rest) (hW : (rest.map fun v => v.category).sum ≤ 8) (hdg : decode cc pc = .ok (.invokestatic index, 3)) (hf : cells + 0 ≤ R.cells ∧ slots + 0 ≤ R.slots) : va_Run p l e R s m args below meth c H locs cells slots 0 0 (F0 m pc ls st0) rest (Qc As.toArray) free :=
  va_runS S hM cw ⟨fblind, pre_at hP hD hK hN isC hC hnC⟩ rfl hn hsize hstack (lv_room hW) hdg hf
theorem rSN (S : CallFix p m c cc nL s args Ts own) (hM : Met l y ws rm (cPre D tys As W0 H.size) Qc 0 0 free) (cw : va_CN R s args own index y host bytes maxL ret ws rm 0 0 n ∧ (Cond.static y).before args s = true ∧ True) (hP : va_P D vwCl wsx H) (hD : va_D A wsx) (hK : va_K D vwCl tys s) (hN : nst s) (isC : List Nat) (hC : isC.map (fun i => wsx[i]?) = W0.map some) (hnC : va_nd isC = true) (hn : As.length = n) (hsize : ls.size = nL) (hstack : st0 = As.reverse ++ rest) (hW : (rest.map fun v => v.category).sum ≤ 8) (hdg : decode cc pc = .ok (.invokestatic index, 3)) (hf : cells + 0 ≤ R.cells ∧ slots + 0 ≤ R.slots) : va_Run p l e R s m args below meth c H locs cells slots 0 0 (F0 m pc ls st0) rest (Qc As.toArray) free :=
  va_runSN S hM cw ⟨fblind, pre_at hP hD hK hN isC hC hnC⟩ rfl hn hsize hstack (lv_room hW) hdg hf
end CK
end
section
/-! ===== small rows on ints ===== -/
theorem i32_bm {z : Int} (h1 : -2147483648 ≤ z) (h2 : z < 2147483648) : z.bmod (2 ^ 32) = z := Int.bmod_eq_of_le (by omega) (by omega)
theorem i32_add {a b : Int32} (h1 : -2147483648 ≤ a.toInt + b.toInt) (h2 : a.toInt + b.toInt < 2147483648) : (a + b).toInt = a.toInt + b.toInt := by
  rw [Int32.toInt_add, i32_bm h1 h2]
theorem i32_sub {a b : Int32} (h1 : -2147483648 ≤ a.toInt - b.toInt) (h2 : a.toInt - b.toInt < 2147483648) : (a - b).toInt = a.toInt - b.toInt := by
  rw [Int32.toInt_sub, i32_bm h1 h2]
theorem i32_mul {a b : Int32} (h1 : -2147483648 ≤ a.toInt * b.toInt) (h2 : a.toInt * b.toInt < 2147483648) : (a * b).toInt = a.toInt * b.toInt := by
  rw [Int32.toInt_mul, i32_bm h1 h2]
theorem i32_hi (a : Int32) : a.toInt < 2147483648 := Int32.toInt_lt a
theorem i32_lo (a : Int32) : -2147483648 ≤ a.toInt := Int32.le_toInt a
theorem i32_s {i b : Int32} (h : i.toInt < b.toInt) : (i + 1).toInt = i.toInt + 1 := by
  have h1 := i32_hi b
  have h2 := i32_lo i
  have e : (1 : Int32).toInt = 1 := rfl
  rw [i32_add (by rw [e]; omega) (by rw [e]; omega), e]
theorem i32_p {i : Int32} (h : 0 < i) : (i + (-1)).toInt = i.toInt - 1 := by
  have h1 := i32_hi i
  have e : (-1 : Int32).toInt = -1 := rfl
  have e0 : (0 : Int32).toInt = 0 := rfl
  rw [Int32.lt_iff_toInt_lt, e0] at h
  rw [i32_add (by rw [e]; omega) (by rw [e]; omega), e]
  omega
theorem i32_p' {i : Int32} (h : 0 < i) : (i - 1).toInt = i.toInt - 1 := by
  have h1 := i32_hi i
  have e : (1 : Int32).toInt = 1 := rfl
  have e0 : (0 : Int32).toInt = 0 := rfl
  rw [Int32.lt_iff_toInt_lt, e0] at h
  rw [i32_sub (by rw [e]; omega) (by rw [e]; omega), e]
theorem lt_of_nle {b i : Int32} (h : ¬ b ≤ i) : i.toInt < b.toInt := by
  rw [Int32.le_iff_toInt_le] at h; omega
theorem ms_up {i b : Int32} {n : Nat} (hc : ¬ b ≤ i) (h : (b.toInt - i.toInt).toNat < n + 1) : (b.toInt - (i + 1).toInt).toNat < n := by
  have h1 := lt_of_nle hc
  rw [i32_s h1]; omega
theorem up_ge {i b : Int32} (h0 : 0 ≤ i) (hc : ¬ b ≤ i) : 0 ≤ i + 1 := by
  have h1 := lt_of_nle hc
  have e0 : (0 : Int32).toInt = 0 := rfl
  rw [Int32.le_iff_toInt_le, e0] at h0 ⊢
  rw [i32_s h1]; omega
theorem vin_u {i b : Int32} {n : Nat} (h0 : 0 ≤ i) (hc : ¬ b ≤ i) (hb : b.toInt ≤ n) : vp_in i n := by
  have h1 := lt_of_nle hc
  have e0 : (0 : Int32).toInt = 0 := rfl
  rw [Int32.le_iff_toInt_le, e0] at h0
  rw [vp_in_iff]; omega
theorem vin48 {i b : Int32} (h0 : 0 ≤ i) (hc : ¬ b ≤ i) (hb : b ≤ 48) : vp_in i 48 := by
  have e : (48 : Int32).toInt = 48 := rfl
  rw [Int32.le_iff_toInt_le, e] at hb
  exact vin_u h0 hc (by omega)
theorem nb_01 {v : Int32} (h : v = 0 ∨ v = 1) : narrow .boolean (.int v) = .int v := by
  rcases h with rfl | rfl <;> rfl
theorem sw_c {x : Int32} {k : Int} {j : Int32} (e : j.toInt = k) (h : ¬ x = j) : x.toInt ≠ k := fun h2 => h (Int32.toInt_inj.mp (h2.trans e.symm))
theorem sw_out3 {x : Int32} (h0 : ¬ x = 0) (h1 : ¬ x = 1) (h2 : ¬ x = 2) : x.toInt < 0 ∨ 2 < x.toInt := by
  have a0 := sw_c (k := 0) rfl h0; have a1 := sw_c (k := 1) rfl h1; have a2 := sw_c (k := 2) rfl h2
  omega
theorem sw_out6 {x : Int32} (h0 : ¬ x = 0) (h1 : ¬ x = 1) (h2 : ¬ x = 2) (h3 : ¬ x = 3) (h4 : ¬ x = 4) (h5 : ¬ x = 5) : x.toInt < 0 ∨ 5 < x.toInt := by
  have a0 := sw_c (k := 0) rfl h0; have a1 := sw_c (k := 1) rfl h1; have a2 := sw_c (k := 2) rfl h2; have a3 := sw_c (k := 3) rfl h3; have a4 := sw_c (k := 4) rfl h4; have a5 := sw_c (k := 5) rfl h5
  omega
theorem sw_out10 {x : Int32} (h0 : ¬ x = 0) (h1 : ¬ x = 1) (h2 : ¬ x = 2) (h3 : ¬ x = 3) (h4 : ¬ x = 4) (h5 : ¬ x = 5) (h6 : ¬ x = 6) (h7 : ¬ x = 7) (h8 : ¬ x = 8) (h9 : ¬ x = 9) : x.toInt < 0 ∨ 9 < x.toInt := by
  have a0 := sw_c (k := 0) rfl h0; have a1 := sw_c (k := 1) rfl h1; have a2 := sw_c (k := 2) rfl h2; have a3 := sw_c (k := 3) rfl h3; have a4 := sw_c (k := 4) rfl h4; have a5 := sw_c (k := 5) rfl h5
  have a6 := sw_c (k := 6) rfl h6; have a7 := sw_c (k := 7) rfl h7; have a8 := sw_c (k := 8) rfl h8; have a9 := sw_c (k := 9) rfl h9
  omega
end
section
def g_X3_isBelow (x0 : Int32) (x1 : Int32) : Int32 := (if x0 < 0 then 0 else (if x1 ≤ x0 then 0 else 1))
set_option maxHeartbeats 4000000 in
set_option maxRecDepth 100000 in
theorem c_X3_isBelow (l : Launch) (D : va_G) (cA cZ : ClassId) (szz : Nat) (x0 : Int32) (x1 : Int32) : MetI l yX3_isBelow wsX3_isBelow 0 0 D (tyA cA cZ) [.int x0, .int x1] (([] : va_W)) szz (g_X3_isBelow x0 x1) (([] : va_W)) := by
  refine Met.ofW (cc := cX3_isBelow) (maxL := 2) (ret := (some .boolean)) (by decide) rfl ?_
  intro p e s m args below meth c s₁ B hml hv
  obtain ⟨rfl, hsz, hP, hK, hD0, hN⟩ := hv
  have hx := B.exec
  have hb := B.bytes
  have hr := B.returns
  have hts := atoms_spec (ws := wsX3_isBelow) B.pre
  have hown : s.vm.findClass RX3 = some m.cls := findClass_of_methodNamed B.named
  have hlocks := B.notSynchronized
  subst hsz
  have hD := hD0.self (sz := s.heap.size)
  generalize hAe : va_A (([] : va_W)) s.heap.size = A at hD ⊢
  have hA : ∀ q : Nat, s.heap.size ≤ q → A q := fun q h => by rw [← hAe]; exact Or.inr h
  have hS : va_S A s.heap s.heap [] := va_S.rf
  have hP : va_P D vwCl (([] : va_W)) s.heap := hP
  obtain ⟨G, hG⟩ : ∃ G, G = (g_X3_isBelow x0 x1) := ⟨_, rfl⟩
  rw [← hG]
  have hl := lv_entry ([.int x0, .int x1]) (n := 2) (Nat.le_of_ble_eq_true rfl)
  rw [lg_entry_eq]
  generalize (lg_sl ([.int x0, .int x1]) ++ List.replicate (2 - (lg_sl ([.int x0, .int x1])).length) Slot.unset).toArray = ls at hl ⊢
  have hl : lv_has ls 2 [(0, .int x0), (1, .int x1)] := hl
  refine lv_iload_n hx hb dX3_isBelow_0 rfl (lv_at hl 0 rfl) ?_
  refine lv_if_lt (tgt := 13) hx hb dX3_isBelow_1 (by decide) (fun c_1 => ?_) (fun c_1 => ?_)
  · refine lv_iconst (v := 0) hx hb dX3_isBelow_13 (by decide) ?_
    rw [g_X3_isBelow, if_pos c_1] at hG
    rw [hG]
    exact W.zret (v := 0) hx hb hr rfl (fun t ht hW => ⟨⟨_, (), rfl, rfl, by rw [ht]; exact hP, va_K.moved hW.alike hK, hD⟩, hS.F ht⟩) hS.2.2 dX3_isBelow_14
  · refine lv_iload_n hx hb dX3_isBelow_4 rfl (lv_at hl 0 rfl) ?_
    refine lv_iload_n hx hb dX3_isBelow_5 rfl (lv_at hl 1 rfl) ?_
    refine lv_icmp_ge (tgt := 13) hx hb dX3_isBelow_6 (by decide) (fun c_2 => ?_) (fun c_2 => ?_)
    · refine lv_iconst (v := 0) hx hb dX3_isBelow_13 (by decide) ?_
      rw [g_X3_isBelow, if_neg c_1, if_pos c_2] at hG
      rw [hG]
      exact W.zret (v := 0) hx hb hr rfl (fun t ht hW => ⟨⟨_, (), rfl, rfl, by rw [ht]; exact hP, va_K.moved hW.alike hK, hD⟩, hS.F ht⟩) hS.2.2 dX3_isBelow_14
    · refine lv_iconst (v := 1) hx hb dX3_isBelow_9 (by decide) ?_
      refine lv_goto (tgt := 14) hx hb dX3_isBelow_10 (by decide) ?_
      rw [g_X3_isBelow, if_neg c_1, if_neg c_2] at hG
      rw [hG]
      exact W.zret (v := 1) hx hb hr rfl (fun t ht hW => ⟨⟨_, (), rfl, rfl, by rw [ht]; exact hP, va_K.moved hW.alike hK, hD⟩, hS.F ht⟩) hS.2.2 dX3_isBelow_14

theorem b_isBelow (a b : Int32) : g_X3_isBelow a b = 0 ∨ g_X3_isBelow a b = 1 := by
  unfold g_X3_isBelow; split
  · exact Or.inl rfl
  · split
    · exact Or.inl rfl
    · exact Or.inr rfl
theorem below_iff {a b : Int32} : ¬ g_X3_isBelow a b = 0 ↔ 0 ≤ a.toInt ∧ a.toInt < b.toInt := by
  have e0 : (0 : Int32).toInt = 0 := rfl
  unfold g_X3_isBelow
  by_cases h1 : a < 0
  · rw [if_pos h1]; rw [Int32.lt_iff_toInt_lt, e0] at h1
    exact ⟨fun h => absurd rfl h, fun h => by omega⟩
  · rw [if_neg h1]; rw [Int32.lt_iff_toInt_lt, e0] at h1
    by_cases h2 : b ≤ a
    · rw [if_pos h2]; rw [Int32.le_iff_toInt_le] at h2
      exact ⟨fun h => absurd rfl h, fun h => by omega⟩
    · rw [if_neg h2]; rw [Int32.le_iff_toInt_le] at h2
      exact ⟨fun _ => ⟨by omega, by omega⟩, fun _ h => absurd h (by decide)⟩
theorem below_in {a b : Int32} {n : Nat} (h : ¬ g_X3_isBelow a b = 0) (hb : b.toInt = n) : vp_in a n := by
  have h1 := below_iff.mp h
  rw [vp_in_iff]; omega

def g_X3_isWithin (x0 : Int32) (x1 : Int32) (x2 : Int32) : Int32 := (if x0 < x1 then 0 else (if x2 < x0 then 0 else 1))
set_option maxHeartbeats 4000000 in
set_option maxRecDepth 100000 in
theorem c_X3_isWithin (l : Launch) (D : va_G) (cA cZ : ClassId) (szz : Nat) (x0 : Int32) (x1 : Int32) (x2 : Int32) : MetI l yX3_isWithin wsX3_isWithin 0 0 D (tyA cA cZ) [.int x0, .int x1, .int x2] (([] : va_W)) szz (g_X3_isWithin x0 x1 x2) (([] : va_W)) := by
  refine Met.ofW (cc := cX3_isWithin) (maxL := 3) (ret := (some .boolean)) (by decide) rfl ?_
  intro p e s m args below meth c s₁ B hml hv
  obtain ⟨rfl, hsz, hP, hK, hD0, hN⟩ := hv
  have hx := B.exec
  have hb := B.bytes
  have hr := B.returns
  have hts := atoms_spec (ws := wsX3_isWithin) B.pre
  have hown : s.vm.findClass RX3 = some m.cls := findClass_of_methodNamed B.named
  have hlocks := B.notSynchronized
  subst hsz
  have hD := hD0.self (sz := s.heap.size)
  generalize hAe : va_A (([] : va_W)) s.heap.size = A at hD ⊢
  have hA : ∀ q : Nat, s.heap.size ≤ q → A q := fun q h => by rw [← hAe]; exact Or.inr h
  have hS : va_S A s.heap s.heap [] := va_S.rf
  have hP : va_P D vwCl (([] : va_W)) s.heap := hP
  obtain ⟨G, hG⟩ : ∃ G, G = (g_X3_isWithin x0 x1 x2) := ⟨_, rfl⟩
  rw [← hG]
  have hl := lv_entry ([.int x0, .int x1, .int x2]) (n := 3) (Nat.le_of_ble_eq_true rfl)
  rw [lg_entry_eq]
  generalize (lg_sl ([.int x0, .int x1, .int x2]) ++ List.replicate (3 - (lg_sl ([.int x0, .int x1, .int x2])).length) Slot.unset).toArray = ls at hl ⊢
  have hl : lv_has ls 3 [(0, .int x0), (1, .int x1), (2, .int x2)] := hl
  refine lv_iload_n hx hb dX3_isWithin_0 rfl (lv_at hl 0 rfl) ?_
  refine lv_iload_n hx hb dX3_isWithin_1 rfl (lv_at hl 1 rfl) ?_
  refine lv_icmp_lt (tgt := 14) hx hb dX3_isWithin_2 (by decide) (fun c_1 => ?_) (fun c_1 => ?_)
  · refine lv_iconst (v := 0) hx hb dX3_isWithin_14 (by decide) ?_
    rw [g_X3_isWithin, if_pos c_1] at hG
    rw [hG]
    exact W.zret (v := 0) hx hb hr rfl (fun t ht hW => ⟨⟨_, (), rfl, rfl, by rw [ht]; exact hP, va_K.moved hW.alike hK, hD⟩, hS.F ht⟩) hS.2.2 dX3_isWithin_15
  · refine lv_iload_n hx hb dX3_isWithin_5 rfl (lv_at hl 0 rfl) ?_
    refine lv_iload_n hx hb dX3_isWithin_6 rfl (lv_at hl 2 rfl) ?_
    refine lv_icmp_gt (tgt := 14) hx hb dX3_isWithin_7 (by decide) (fun c_2 => ?_) (fun c_2 => ?_)
    · refine lv_iconst (v := 0) hx hb dX3_isWithin_14 (by decide) ?_
      rw [g_X3_isWithin, if_neg c_1, if_pos c_2] at hG
      rw [hG]
      exact W.zret (v := 0) hx hb hr rfl (fun t ht hW => ⟨⟨_, (), rfl, rfl, by rw [ht]; exact hP, va_K.moved hW.alike hK, hD⟩, hS.F ht⟩) hS.2.2 dX3_isWithin_15
    · refine lv_iconst (v := 1) hx hb dX3_isWithin_10 (by decide) ?_
      refine lv_goto (tgt := 15) hx hb dX3_isWithin_11 (by decide) ?_
      rw [g_X3_isWithin, if_neg c_1, if_neg c_2] at hG
      rw [hG]
      exact W.zret (v := 1) hx hb hr rfl (fun t ht hW => ⟨⟨_, (), rfl, rfl, by rw [ht]; exact hP, va_K.moved hW.alike hK, hD⟩, hS.F ht⟩) hS.2.2 dX3_isWithin_15

def g_X3_isColour (x0 : Int32) (x1 : Int32) : Int32 := (if (g_X3_isBelow x0 2) = 0 then 0 else (if (g_X3_isBelow x1 6) = 0 then 0 else 1))
set_option maxHeartbeats 4000000 in
set_option maxRecDepth 100000 in
theorem c_X3_isColour (l : Launch) (D : va_G) (cA cZ : ClassId) (szz : Nat) (x0 : Int32) (x1 : Int32) : MetI l yX3_isColour wsX3_isColour 1 21 D (tyA cA cZ) [.int x0, .int x1] (([] : va_W)) szz (g_X3_isColour x0 x1) (([] : va_W)) := by
  refine Met.ofW (cc := cX3_isColour) (maxL := 2) (ret := (some .boolean)) (by decide) rfl ?_
  intro p e s m args below meth c s₁ B hml hv
  obtain ⟨rfl, hsz, hP, hK, hD0, hN⟩ := hv
  have hx := B.exec
  have hb := B.bytes
  have hr := B.returns
  have hts := atoms_spec (ws := wsX3_isColour) B.pre
  have hown : s.vm.findClass RX3 = some m.cls := findClass_of_methodNamed B.named
  have hlocks := B.notSynchronized
  subst hsz
  have hD := hD0.self (sz := s.heap.size)
  generalize hAe : va_A (([] : va_W)) s.heap.size = A at hD ⊢
  have hA : ∀ q : Nat, s.heap.size ≤ q → A q := fun q h => by rw [← hAe]; exact Or.inr h
  have hS : va_S A s.heap s.heap [] := va_S.rf
  have hP : va_P D vwCl (([] : va_W)) s.heap := hP
  obtain ⟨G, hG⟩ : ∃ G, G = (g_X3_isColour x0 x1) := ⟨_, rfl⟩
  rw [← hG]
  have hl := lv_entry ([.int x0, .int x1]) (n := 2) (Nat.le_of_ble_eq_true rfl)
  rw [lg_entry_eq]
  generalize (lg_sl ([.int x0, .int x1]) ++ List.replicate (2 - (lg_sl ([.int x0, .int x1])).length) Slot.unset).toArray = ls at hl ⊢
  have hl : lv_has ls 2 [(0, .int x0), (1, .int x1)] := hl
  refine lv_iload_n hx hb dX3_isColour_0 rfl (lv_at hl 0 rfl) ?_
  refine lv_iconst (v := 2) hx hb dX3_isColour_1 (by decide) ?_
  refine kI (wr := ([] : va_W)) (W1 := ([] : va_W)) (wsN := ([] : va_W)) (rS (As := [.int x0, .int 2]) (rest := []) (W0 := ([] : va_W)) ⟨hx, hb, hml, hown, hts⟩ (c_X3_isBelow l D cA cZ s.heap.size x0 2) (cwS 2 hts gX3_isColour_X3_isBelow rfl rfl rfl (by decide +kernel) ⟨Nat.le_of_ble_eq_true rfl, Nat.le_of_ble_eq_true rfl⟩) hP hD hK hN ([] : List Nat) rfl rfl rfl hl.1 rfl (Nat.le_of_ble_eq_true rfl) dX3_isColour_2 ⟨Nat.zero_le _, Nat.zero_le _⟩) hP hD hS hA [] [] [] rfl rfl rfl (by decide) rfl rfl (fun H locs hP hD hS => ?_)
  refine lv_if_eq (tgt := 21) hx hb dX3_isColour_5 (by decide) (fun c_1 => ?_) (fun c_1 => ?_)
  · refine lv_iconst (v := 0) hx hb dX3_isColour_21 (by decide) ?_
    rw [g_X3_isColour, if_pos c_1] at hG
    rw [hG]
    exact W.zret (v := 0) hx hb hr rfl (fun t ht hW => ⟨⟨_, (), rfl, rfl, by rw [ht]; exact hP, va_K.moved hW.alike hK, hD⟩, hS.F ht⟩) hS.2.2 dX3_isColour_22
  · refine lv_iload_n hx hb dX3_isColour_8 rfl (lv_at hl 1 rfl) ?_
    refine lv_bipush (v := 6) hx hb dX3_isColour_9 (by decide) ?_
    refine kI (wr := ([] : va_W)) (W1 := ([] : va_W)) (wsN := ([] : va_W)) (rS (As := [.int x1, .int 6]) (rest := []) (W0 := ([] : va_W)) ⟨hx, hb, hml, hown, hts⟩ (c_X3_isBelow l D cA cZ H.size x1 6) (cwS 2 hts gX3_isColour_X3_isBelow rfl rfl rfl (by decide +kernel) ⟨Nat.le_of_ble_eq_true rfl, Nat.le_of_ble_eq_true rfl⟩) hP hD hK hN ([] : List Nat) rfl rfl rfl hl.1 rfl (Nat.le_of_ble_eq_true rfl) dX3_isColour_11 ⟨Nat.zero_le _, Nat.zero_le _⟩) hP hD hS hA [] [] [] rfl rfl rfl (by decide) rfl rfl (fun H locs hP hD hS => ?_)
    refine lv_if_eq (tgt := 21) hx hb dX3_isColour_14 (by decide) (fun c_2 => ?_) (fun c_2 => ?_)
    · refine lv_iconst (v := 0) hx hb dX3_isColour_21 (by decide) ?_
      rw [g_X3_isColour, if_neg c_1, if_pos c_2] at hG
      rw [hG]
      exact W.zret (v := 0) hx hb hr rfl (fun t ht hW => ⟨⟨_, (), rfl, rfl, by rw [ht]; exact hP, va_K.moved hW.alike hK, hD⟩, hS.F ht⟩) hS.2.2 dX3_isColour_22
    · refine lv_iconst (v := 1) hx hb dX3_isColour_17 (by decide) ?_
      refine lv_goto (tgt := 22) hx hb dX3_isColour_18 (by decide) ?_
      rw [g_X3_isColour, if_neg c_1, if_neg c_2] at hG
      rw [hG]
      exact W.zret (v := 1) hx hb hr rfl (fun t ht hW => ⟨⟨_, (), rfl, rfl, by rw [ht]; exact hP, va_K.moved hW.alike hK, hD⟩, hS.F ht⟩) hS.2.2 dX3_isColour_22

def g_X3_isSpan (x0 : Int32) (x1 : Int32) : Int32 := (if (g_X3_isWithin x0 0 20000) = 0 then 0 else (if (g_X3_isWithin x1 1 2000) = 0 then 0 else 1))
set_option maxHeartbeats 4000000 in
set_option maxRecDepth 100000 in
theorem c_X3_isSpan (l : Launch) (D : va_G) (cA cZ : ClassId) (szz : Nat) (x0 : Int32) (x1 : Int32) : MetI l yX3_isSpan wsX3_isSpan 1 22 D (tyA cA cZ) [.int x0, .int x1] (([] : va_W)) szz (g_X3_isSpan x0 x1) (([] : va_W)) := by
  refine Met.ofW (cc := cX3_isSpan) (maxL := 2) (ret := (some .boolean)) (by decide) rfl ?_
  intro p e s m args below meth c s₁ B hml hv
  obtain ⟨rfl, hsz, hP, hK, hD0, hN⟩ := hv
  have hx := B.exec
  have hb := B.bytes
  have hr := B.returns
  have hts := atoms_spec (ws := wsX3_isSpan) B.pre
  have hown : s.vm.findClass RX3 = some m.cls := findClass_of_methodNamed B.named
  have hlocks := B.notSynchronized
  subst hsz
  have hD := hD0.self (sz := s.heap.size)
  generalize hAe : va_A (([] : va_W)) s.heap.size = A at hD ⊢
  have hA : ∀ q : Nat, s.heap.size ≤ q → A q := fun q h => by rw [← hAe]; exact Or.inr h
  have hS : va_S A s.heap s.heap [] := va_S.rf
  have hP : va_P D vwCl (([] : va_W)) s.heap := hP
  obtain ⟨G, hG⟩ : ∃ G, G = (g_X3_isSpan x0 x1) := ⟨_, rfl⟩
  rw [← hG]
  have hl := lv_entry ([.int x0, .int x1]) (n := 2) (Nat.le_of_ble_eq_true rfl)
  rw [lg_entry_eq]
  generalize (lg_sl ([.int x0, .int x1]) ++ List.replicate (2 - (lg_sl ([.int x0, .int x1])).length) Slot.unset).toArray = ls at hl ⊢
  have hl : lv_has ls 2 [(0, .int x0), (1, .int x1)] := hl
  refine lv_iload_n hx hb dX3_isSpan_0 rfl (lv_at hl 0 rfl) ?_
  refine lv_iconst (v := 0) hx hb dX3_isSpan_1 (by decide) ?_
  refine lv_sipush (v := 20000) hx hb dX3_isSpan_2 (by decide) ?_
  refine kI (wr := ([] : va_W)) (W1 := ([] : va_W)) (wsN := ([] : va_W)) (rS (As := [.int x0, .int 0, .int 20000]) (rest := []) (W0 := ([] : va_W)) ⟨hx, hb, hml, hown, hts⟩ (c_X3_isWithin l D cA cZ s.heap.size x0 0 20000) (cwS 3 hts gX3_isSpan_X3_isWithin rfl rfl rfl (by decide +kernel) ⟨Nat.le_of_ble_eq_true rfl, Nat.le_of_ble_eq_true rfl⟩) hP hD hK hN ([] : List Nat) rfl rfl rfl hl.1 rfl (Nat.le_of_ble_eq_true rfl) dX3_isSpan_5 ⟨Nat.zero_le _, Nat.zero_le _⟩) hP hD hS hA [] [] [] rfl rfl rfl (by decide) rfl rfl (fun H locs hP hD hS => ?_)
  refine lv_if_eq (tgt := 26) hx hb dX3_isSpan_8 (by decide) (fun c_1 => ?_) (fun c_1 => ?_)
  · refine lv_iconst (v := 0) hx hb dX3_isSpan_26 (by decide) ?_
    rw [g_X3_isSpan, if_pos c_1] at hG
    rw [hG]
    exact W.zret (v := 0) hx hb hr rfl (fun t ht hW => ⟨⟨_, (), rfl, rfl, by rw [ht]; exact hP, va_K.moved hW.alike hK, hD⟩, hS.F ht⟩) hS.2.2 dX3_isSpan_27
  · refine lv_iload_n hx hb dX3_isSpan_11 rfl (lv_at hl 1 rfl) ?_
    refine lv_iconst (v := 1) hx hb dX3_isSpan_12 (by decide) ?_
    refine lv_sipush (v := 2000) hx hb dX3_isSpan_13 (by decide) ?_
    refine kI (wr := ([] : va_W)) (W1 := ([] : va_W)) (wsN := ([] : va_W)) (rS (As := [.int x1, .int 1, .int 2000]) (rest := []) (W0 := ([] : va_W)) ⟨hx, hb, hml, hown, hts⟩ (c_X3_isWithin l D cA cZ H.size x1 1 2000) (cwS 3 hts gX3_isSpan_X3_isWithin rfl rfl rfl (by decide +kernel) ⟨Nat.le_of_ble_eq_true rfl, Nat.le_of_ble_eq_true rfl⟩) hP hD hK hN ([] : List Nat) rfl rfl rfl hl.1 rfl (Nat.le_of_ble_eq_true rfl) dX3_isSpan_16 ⟨Nat.zero_le _, Nat.zero_le _⟩) hP hD hS hA [] [] [] rfl rfl rfl (by decide) rfl rfl (fun H locs hP hD hS => ?_)
    refine lv_if_eq (tgt := 26) hx hb dX3_isSpan_19 (by decide) (fun c_2 => ?_) (fun c_2 => ?_)
    · refine lv_iconst (v := 0) hx hb dX3_isSpan_26 (by decide) ?_
      rw [g_X3_isSpan, if_neg c_1, if_pos c_2] at hG
      rw [hG]
      exact W.zret (v := 0) hx hb hr rfl (fun t ht hW => ⟨⟨_, (), rfl, rfl, by rw [ht]; exact hP, va_K.moved hW.alike hK, hD⟩, hS.F ht⟩) hS.2.2 dX3_isSpan_27
    · refine lv_iconst (v := 1) hx hb dX3_isSpan_22 (by decide) ?_
      refine lv_goto (tgt := 27) hx hb dX3_isSpan_23 (by decide) ?_
      rw [g_X3_isSpan, if_neg c_1, if_neg c_2] at hG
      rw [hG]
      exact W.zret (v := 1) hx hb hr rfl (fun t ht hW => ⟨⟨_, (), rfl, rfl, by rw [ht]; exact hP, va_K.moved hW.alike hK, hD⟩, hS.F ht⟩) hS.2.2 dX3_isSpan_27

def g_X3_refusalOfBurst (x0 : Int32) (x1 : Int32) (x2 : Int32) (x3 : Int32) (x4 : Int32) : Int32 := (if (g_X3_isColour x0 x1) = 0 then (-1) else (if (g_X3_isBelow x2 3) = 0 then (-1) else (if (g_X3_isWithin x3 1 5) = 0 then (-2) else (if (g_X3_isWithin x4 1 60) = 0 then (-2) else 0))))
set_option maxHeartbeats 4000000 in
set_option maxRecDepth 100000 in
theorem c_X3_refusalOfBurst (l : Launch) (D : va_G) (cA cZ : ClassId) (szz : Nat) (x0 : Int32) (x1 : Int32) (x2 : Int32) (x3 : Int32) (x4 : Int32) : MetI l yX3_refusalOfBurst wsX3_refusalOfBurst 2 42 D (tyA cA cZ) [.int x0, .int x1, .int x2, .int x3, .int x4] (([] : va_W)) szz (g_X3_refusalOfBurst x0 x1 x2 x3 x4) (([] : va_W)) := by
  refine Met.ofW (cc := cX3_refusalOfBurst) (maxL := 5) (ret := (some .int)) (by decide) rfl ?_
  intro p e s m args below meth c s₁ B hml hv
  obtain ⟨rfl, hsz, hP, hK, hD0, hN⟩ := hv
  have hx := B.exec
  have hb := B.bytes
  have hr := B.returns
  have hts := atoms_spec (ws := wsX3_refusalOfBurst) B.pre
  have hown : s.vm.findClass RX3 = some m.cls := findClass_of_methodNamed B.named
  have hlocks := B.notSynchronized
  subst hsz
  have hD := hD0.self (sz := s.heap.size)
  generalize hAe : va_A (([] : va_W)) s.heap.size = A at hD ⊢
  have hA : ∀ q : Nat, s.heap.size ≤ q → A q := fun q h => by rw [← hAe]; exact Or.inr h
  have hS : va_S A s.heap s.heap [] := va_S.rf
  have hP : va_P D vwCl (([] : va_W)) s.heap := hP
  obtain ⟨G, hG⟩ : ∃ G, G = (g_X3_refusalOfBurst x0 x1 x2 x3 x4) := ⟨_, rfl⟩
  rw [← hG]
  have hl := lv_entry ([.int x0, .int x1, .int x2, .int x3, .int x4]) (n := 5) (Nat.le_of_ble_eq_true rfl)
  rw [lg_entry_eq]
  generalize (lg_sl ([.int x0, .int x1, .int x2, .int x3, .int x4]) ++ List.replicate (5 - (lg_sl ([.int x0, .int x1, .int x2, .int x3, .int x4])).length) Slot.unset).toArray = ls at hl ⊢
  have hl : lv_has ls 5 [(0, .int x0), (1, .int x1), (2, .int x2), (3, .int x3), (4, .int x4)] := hl
  refine lv_iload_n hx hb dX3_refusalOfBurst_0 rfl (lv_at hl 0 rfl) ?_
  refine lv_iload_n hx hb dX3_refusalOfBurst_1 rfl (lv_at hl 1 rfl) ?_
  refine kI (wr := ([] : va_W)) (W1 := ([] : va_W)) (wsN := ([] : va_W)) (rS (As := [.int x0, .int x1]) (rest := []) (W0 := ([] : va_W)) ⟨hx, hb, hml, hown, hts⟩ (c_X3_isColour l D cA cZ s.heap.size x0 x1) (cwS 2 hts gX3_refusalOfBurst_X3_isColour rfl rfl rfl (by decide +kernel) ⟨Nat.le_of_ble_eq_true rfl, Nat.le_of_ble_eq_true rfl⟩) hP hD hK hN ([] : List Nat) rfl rfl rfl hl.1 rfl (Nat.le_of_ble_eq_true rfl) dX3_refusalOfBurst_2 ⟨Nat.zero_le _, Nat.zero_le _⟩) hP hD hS hA [] [] [] rfl rfl rfl (by decide) rfl rfl (fun H locs hP hD hS => ?_)
  refine lv_if_eq (tgt := 16) hx hb dX3_refusalOfBurst_5 (by decide) (fun c_1 => ?_) (fun c_1 => ?_)
  · refine lv_iconst (v := (-1)) hx hb dX3_refusalOfBurst_16 (by decide) ?_
    rw [g_X3_refusalOfBurst, if_pos c_1] at hG
    rw [hG]
    exact W.iret (v := (-1)) hx hb hr (fun t ht hW => ⟨⟨_, (), rfl, rfl, by rw [ht]; exact hP, va_K.moved hW.alike hK, hD⟩, hS.F ht⟩) hS.2.2 dX3_refusalOfBurst_17
  · refine lv_iload_n hx hb dX3_refusalOfBurst_8 rfl (lv_at hl 2 rfl) ?_
    refine lv_iconst (v := 3) hx hb dX3_refusalOfBurst_9 (by decide) ?_
    refine kI (wr := ([] : va_W)) (W1 := ([] : va_W)) (wsN := ([] : va_W)) (rS (As := [.int x2, .int 3]) (rest := []) (W0 := ([] : va_W)) ⟨hx, hb, hml, hown, hts⟩ (c_X3_isBelow l D cA cZ H.size x2 3) (cwS 2 hts gX3_refusalOfBurst_X3_isBelow rfl rfl rfl (by decide +kernel) ⟨Nat.le_of_ble_eq_true rfl, Nat.le_of_ble_eq_true rfl⟩) hP hD hK hN ([] : List Nat) rfl rfl rfl hl.1 rfl (Nat.le_of_ble_eq_true rfl) dX3_refusalOfBurst_10 ⟨Nat.zero_le _, Nat.zero_le _⟩) hP hD hS hA [] [] [] rfl rfl rfl (by decide) rfl rfl (fun H locs hP hD hS => ?_)
    refine lv_if_ne (tgt := 18) hx hb dX3_refusalOfBurst_13 (by decide) (fun c_2 => ?_) (fun c_2 => ?_)
    · refine lv_iload_n hx hb dX3_refusalOfBurst_18 rfl (lv_at hl 3 rfl) ?_
      refine lv_iconst (v := 1) hx hb dX3_refusalOfBurst_19 (by decide) ?_
      refine lv_iconst (v := 5) hx hb dX3_refusalOfBurst_20 (by decide) ?_
      refine kI (wr := ([] : va_W)) (W1 := ([] : va_W)) (wsN := ([] : va_W)) (rS (As := [.int x3, .int 1, .int 5]) (rest := []) (W0 := ([] : va_W)) ⟨hx, hb, hml, hown, hts⟩ (c_X3_isWithin l D cA cZ H.size x3 1 5) (cwS 3 hts gX3_refusalOfBurst_X3_isWithin rfl rfl rfl (by decide +kernel) ⟨Nat.le_of_ble_eq_true rfl, Nat.le_of_ble_eq_true rfl⟩) hP hD hK hN ([] : List Nat) rfl rfl rfl hl.1 rfl (Nat.le_of_ble_eq_true rfl) dX3_refusalOfBurst_21 ⟨Nat.zero_le _, Nat.zero_le _⟩) hP hD hS hA [] [] [] rfl rfl rfl (by decide) rfl rfl (fun H locs hP hD hS => ?_)
      refine lv_if_eq (tgt := 38) hx hb dX3_refusalOfBurst_24 (by decide) (fun c_3 => ?_) (fun c_3 => ?_)
      · refine lv_bipush (v := (-2)) hx hb dX3_refusalOfBurst_38 (by decide) ?_
        rw [g_X3_refusalOfBurst, if_neg c_1, if_neg c_2, if_pos c_3] at hG
        rw [hG]
        exact W.iret (v := (-2)) hx hb hr (fun t ht hW => ⟨⟨_, (), rfl, rfl, by rw [ht]; exact hP, va_K.moved hW.alike hK, hD⟩, hS.F ht⟩) hS.2.2 dX3_refusalOfBurst_40
      · refine lv_iload hx hb dX3_refusalOfBurst_27 (lv_at hl 4 rfl) ?_
        refine lv_iconst (v := 1) hx hb dX3_refusalOfBurst_29 (by decide) ?_
        refine lv_bipush (v := 60) hx hb dX3_refusalOfBurst_30 (by decide) ?_
        refine kI (wr := ([] : va_W)) (W1 := ([] : va_W)) (wsN := ([] : va_W)) (rS (As := [.int x4, .int 1, .int 60]) (rest := []) (W0 := ([] : va_W)) ⟨hx, hb, hml, hown, hts⟩ (c_X3_isWithin l D cA cZ H.size x4 1 60) (cwS 3 hts gX3_refusalOfBurst_X3_isWithin rfl rfl rfl (by decide +kernel) ⟨Nat.le_of_ble_eq_true rfl, Nat.le_of_ble_eq_true rfl⟩) hP hD hK hN ([] : List Nat) rfl rfl rfl hl.1 rfl (Nat.le_of_ble_eq_true rfl) dX3_refusalOfBurst_32 ⟨Nat.zero_le _, Nat.zero_le _⟩) hP hD hS hA [] [] [] rfl rfl rfl (by decide) rfl rfl (fun H locs hP hD hS => ?_)
        refine lv_if_ne (tgt := 41) hx hb dX3_refusalOfBurst_35 (by decide) (fun c_4 => ?_) (fun c_4 => ?_)
        · refine lv_iconst (v := 0) hx hb dX3_refusalOfBurst_41 (by decide) ?_
          rw [g_X3_refusalOfBurst, if_neg c_1, if_neg c_2, if_neg c_3, if_neg c_4] at hG
          rw [hG]
          exact W.iret (v := 0) hx hb hr (fun t ht hW => ⟨⟨_, (), rfl, rfl, by rw [ht]; exact hP, va_K.moved hW.alike hK, hD⟩, hS.F ht⟩) hS.2.2 dX3_refusalOfBurst_42
        · refine lv_bipush (v := (-2)) hx hb dX3_refusalOfBurst_38 (by decide) ?_
          rw [g_X3_refusalOfBurst, if_neg c_1, if_neg c_2, if_neg c_3, if_pos c_4] at hG
          rw [hG]
          exact W.iret (v := (-2)) hx hb hr (fun t ht hW => ⟨⟨_, (), rfl, rfl, by rw [ht]; exact hP, va_K.moved hW.alike hK, hD⟩, hS.F ht⟩) hS.2.2 dX3_refusalOfBurst_40
    · refine lv_iconst (v := (-1)) hx hb dX3_refusalOfBurst_16 (by decide) ?_
      rw [g_X3_refusalOfBurst, if_neg c_1, if_pos c_2] at hG
      rw [hG]
      exact W.iret (v := (-1)) hx hb hr (fun t ht hW => ⟨⟨_, (), rfl, rfl, by rw [ht]; exact hP, va_K.moved hW.alike hK, hD⟩, hS.F ht⟩) hS.2.2 dX3_refusalOfBurst_17

def g_X3_commonDivisor_L7 : Nat → Int32 → Int32 → Int32 → (Int32)
  | 0, _, _, _ => 0
  | n + 1, v2, v3, v4 => (if 64 ≤ v4 then v2 else (if v3 = 0 then v2 else (g_X3_commonDivisor_L7 n v3 (v2 - v2 / v3 * v3) (v4 + 1))))
def g_X3_commonDivisor (x0 : Int32) (x1 : Int32) : Int32 := (g_X3_commonDivisor_L7 (((64 : Int32).toInt - ((0 : Int32)).toInt).toNat + 1) x0 x1 0)
set_option maxHeartbeats 4000000 in
set_option maxRecDepth 100000 in
theorem c_X3_commonDivisor (l : Launch) (D : va_G) (cA cZ : ClassId) (szz : Nat) (x0 : Int32) (x1 : Int32) : MetI l yX3_commonDivisor wsX3_commonDivisor 0 0 D (tyA cA cZ) [.int x0, .int x1] (([] : va_W)) szz (g_X3_commonDivisor x0 x1) (([] : va_W)) := by
  refine Met.ofW (cc := cX3_commonDivisor) (maxL := 6) (ret := (some .int)) (by decide) rfl ?_
  intro p e s m args below meth c s₁ B hml hv
  obtain ⟨rfl, hsz, hP, hK, hD0, hN⟩ := hv
  have hx := B.exec
  have hb := B.bytes
  have hr := B.returns
  have hts := atoms_spec (ws := wsX3_commonDivisor) B.pre
  have hown : s.vm.findClass RX3 = some m.cls := findClass_of_methodNamed B.named
  have hlocks := B.notSynchronized
  subst hsz
  have hD := hD0.self (sz := s.heap.size)
  generalize hAe : va_A (([] : va_W)) s.heap.size = A at hD ⊢
  have hA : ∀ q : Nat, s.heap.size ≤ q → A q := fun q h => by rw [← hAe]; exact Or.inr h
  have hS : va_S A s.heap s.heap [] := va_S.rf
  have hP : va_P D vwCl (([] : va_W)) s.heap := hP
  obtain ⟨G, hG⟩ : ∃ G, G = (g_X3_commonDivisor x0 x1) := ⟨_, rfl⟩
  rw [← hG]
  have hl := lv_entry ([.int x0, .int x1]) (n := 6) (Nat.le_of_ble_eq_true rfl)
  rw [lg_entry_eq]
  generalize (lg_sl ([.int x0, .int x1]) ++ List.replicate (6 - (lg_sl ([.int x0, .int x1])).length) Slot.unset).toArray = ls at hl ⊢
  have hl : lv_has ls 6 [(0, .int x0), (1, .int x1)] := hl
  refine lv_iload_n hx hb dX3_commonDivisor_0 rfl (lv_at hl 0 rfl) ?_
  refine lv_istore_n (lv' := [(2, .int x0), (0, .int x0), (1, .int x1)]) hx hb dX3_commonDivisor_1 rfl hl (by decide) rfl (fun ls hl => ?_)
  refine lv_iload_n hx hb dX3_commonDivisor_2 rfl (lv_at hl 2 rfl) ?_
  refine lv_istore_n (lv' := [(3, .int x1), (2, .int x0), (0, .int x0), (1, .int x1)]) hx hb dX3_commonDivisor_3 rfl hl (by decide) rfl (fun ls hl => ?_)
  refine lv_iconst (v := 0) hx hb dX3_commonDivisor_4 (by decide) ?_
  refine lv_istore (lv' := [(4, .int 0), (3, .int x1), (2, .int x0), (0, .int x0), (1, .int x1)]) hx hb dX3_commonDivisor_5 hl (by decide) rfl (fun ls hl => ?_)
  rw [g_X3_commonDivisor] at hG
  refine (?_ : ∀ (n : Nat) (v2 : Int32) (v3 : Int32) (v4 : Int32) (H : Heap) (locs : List Loc) (ls : Array Slot), ((64 : Int32).toInt - (v4).toInt).toNat < n → G = g_X3_commonDivisor_L7 n v2 v3 v4 → va_P D vwCl (([] : va_W)) H → va_D A (([] : va_W)) → va_S A s.heap H locs → lv_has ls 6 [(0, .int x0), (1, .int x1), (2, .int v2), (3, .int v3), (4, .int v4)] → W p l e _ s m _ below meth c H locs _ _ _ (F0 m 7 ls [])) (((64 : Int32).toInt - ((0 : Int32)).toInt).toNat + 1) x0 x1 0 _ _ _ (Nat.lt_succ_self _) hG hP hD hS (lv_sub hl [3, 4, 2, 1, 0] rfl)
  clear hG hP hD hS hl
  intro n
  induction n with
  | zero => intros; omega
  | succ n7 ih7 =>
    intro v2 v3 v4 H locs ls hm7 hG hP hD hS hl
    refine lv_iload hx hb dX3_commonDivisor_7 (lv_at hl 4 rfl) ?_
    refine lv_bipush (v := 64) hx hb dX3_commonDivisor_9 (by decide) ?_
    refine lv_icmp_ge (tgt := 34) hx hb dX3_commonDivisor_11 (by decide) (fun c_1 => ?_) (fun c_1 => ?_)
    · refine lv_iload_n hx hb dX3_commonDivisor_34 rfl (lv_at hl 2 rfl) ?_
      rw [g_X3_commonDivisor_L7, if_pos c_1] at hG
      rw [hG]
      exact W.iret (v := v2) hx hb hr (fun t ht hW => ⟨⟨_, (), rfl, rfl, by rw [ht]; exact hP, va_K.moved hW.alike hK, hD⟩, hS.F ht⟩) hS.2.2 dX3_commonDivisor_35
    · refine lv_iload_n hx hb dX3_commonDivisor_14 rfl (lv_at hl 3 rfl) ?_
      refine lv_if_eq (tgt := 34) hx hb dX3_commonDivisor_15 (by decide) (fun c_2 => ?_) (fun c_2 => ?_)
      · refine lv_iload_n hx hb dX3_commonDivisor_34 rfl (lv_at hl 2 rfl) ?_
        rw [g_X3_commonDivisor_L7, if_neg c_1, if_pos c_2] at hG
        rw [hG]
        exact W.iret (v := v2) hx hb hr (fun t ht hW => ⟨⟨_, (), rfl, rfl, by rw [ht]; exact hP, va_K.moved hW.alike hK, hD⟩, hS.F ht⟩) hS.2.2 dX3_commonDivisor_35
      · refine lv_iload_n hx hb dX3_commonDivisor_18 rfl (lv_at hl 2 rfl) ?_
        refine lv_iload_n hx hb dX3_commonDivisor_19 rfl (lv_at hl 3 rfl) ?_
        refine lv_irem hx hb dX3_commonDivisor_20 (by first | assumption | exact div_ne (by assumption)) ?_
        refine lv_istore (lv' := [(5, .int (v2 - v2 / v3 * v3)), (0, .int x0), (1, .int x1), (2, .int v2), (3, .int v3), (4, .int v4)]) hx hb dX3_commonDivisor_21 hl (by decide) rfl (fun ls hl => ?_)
        refine lv_iload_n hx hb dX3_commonDivisor_23 rfl (lv_at hl 4 rfl) ?_
        refine lv_istore_n (lv' := [(2, .int v3), (5, .int (v2 - v2 / v3 * v3)), (0, .int x0), (1, .int x1), (3, .int v3), (4, .int v4)]) hx hb dX3_commonDivisor_24 rfl hl (by decide) rfl (fun ls hl => ?_)
        refine lv_iload hx hb dX3_commonDivisor_25 (lv_at hl 1 rfl) ?_
        refine lv_istore_n (lv' := [(3, .int (v2 - v2 / v3 * v3)), (2, .int v3), (5, .int (v2 - v2 / v3 * v3)), (0, .int x0), (1, .int x1), (4, .int v4)]) hx hb dX3_commonDivisor_27 rfl hl (by decide) rfl (fun ls hl => ?_)
        refine lv_iinc (v := (v4 + 1)) (lv' := [(4, .int (v4 + 1)), (3, .int (v2 - v2 / v3 * v3)), (2, .int v3), (5, .int (v2 - v2 / v3 * v3)), (0, .int x0), (1, .int x1)]) hx hb dX3_commonDivisor_28 hl (k := 5) rfl rfl (by decide) rfl (fun ls hl => ?_)
        refine lv_goto (tgt := 7) hx hb dX3_commonDivisor_31 (by decide) ?_
        rw [g_X3_commonDivisor_L7, if_neg c_1, if_neg c_2] at hG
        exact ih7 v3 (v2 - v2 / v3 * v3) (v4 + 1) _ _ _ (by exact ms_up c_1 hm7) hG hP hD hS (lv_sub hl [4, 5, 2, 1, 0] rfl)
end
section
def g_X2_clear : Int32 := 0
set_option maxHeartbeats 4000000 in
set_option maxRecDepth 100000 in
theorem c_X2_clear (l : Launch) (D : va_G) (cA cZ : ClassId) (aT : Nat) (aU : Nat) (aG : Nat) (aE : Nat) (szz : Nat) (sz : Int32) (bf : (Nat → Int32)) (gf : (Nat → Int32)) (ef : (Nat → Int32)) : MetV l yX2_clear wsX2_clear 0 0 D (tyA cA cZ) [.ref aT] (TRw cA aT aU aG aE sz bf gf ef) szz (TRw cA aT aU aG aE g_X2_clear bf gf ef) := by
  refine Met.ofW (cc := cX2_clear) (maxL := 1) (ret := none) (by decide) rfl ?_
  intro p e s m args below meth c s₁ B hml hv
  obtain ⟨rfl, hsz, hP, hK, hD0, hN⟩ := hv
  have hx := B.exec
  have hb := B.bytes
  have hr := B.returns
  have hts := atoms_spec (ws := wsX2_clear) B.pre
  have hown : s.vm.findClass RX2 = some m.cls := findClass_of_methodNamed B.named
  have hlocks := B.notSynchronized
  have iX2 : ∀ w ∈ wsX20, w ∈ wsX2_clear := fun _ h => List.mem_cons_of_mem _ (List.mem_append_right _ h)
  subst hsz
  have hD := hD0.self (sz := s.heap.size)
  generalize hAe : va_A (TRw cA aT aU aG aE sz bf gf ef) s.heap.size = A at hD ⊢
  have hA : ∀ q : Nat, s.heap.size ≤ q → A q := fun q h => by rw [← hAe]; exact Or.inr h
  have hS : va_S A s.heap s.heap [] := va_S.rf
  have hP : va_P D vwCl (TRw cA aT aU aG aE sz bf gf ef) s.heap := hP
  obtain ⟨G, hG⟩ : ∃ G, G = g_X2_clear := ⟨_, rfl⟩
  rw [← hG]
  have hl := lv_entry ([.ref aT]) (n := 1) (Nat.le_of_ble_eq_true rfl)
  rw [lg_entry_eq]
  generalize (lg_sl ([.ref aT]) ++ List.replicate (1 - (lg_sl ([.ref aT])).length) Slot.unset).toArray = ls at hl ⊢
  have hl : lv_has ls 1 [(0, .ref aT)] := hl
  refine lv_aload_n hx hb dX2_clear_0 rfl (lv_at hl 0 rfl) ?_
  refine lv_iconst (v := 0) hx hb dX2_clear_1 (by decide) ?_
  refine va_put (D := D) (ci := 2) (v := .int 0) (ty := .int) (C := RX2) (T := TX2) (N := 4) hx hb hts iX2 tyX2 tyX2_ok nmX2 hown hK hP hD hS 0 rfl rfl 0 (by decide) (hts (.fieldLink RX2 9 "LightBursts$Track" "size" "I") (List.mem_of_getElem? (i := 1) rfl)) (fun _ h9 => h9) rfl (tyX2_ok 0 (by decide)) rfl rfl (Nat.le_of_ble_eq_true rfl) dX2_clear_2 (fun H locs hP hD hS => ?_)
  have hP : va_P D vwCl (TRw cA aT aU aG aE 0 bf gf ef) H := hP
  have hD : va_D A (TRw cA aT aU aG aE 0 bf gf ef) := hD
  rw [g_X2_clear] at hG
  rw [hG]
  exact W.vret hx hb hr (fun t ht hW => ⟨⟨(), rfl, trivial, by rw [ht]; exact hP, va_K.moved hW.alike hK, hD⟩, hS.F ht⟩) hS.2.2 dX2_clear_5

def g_X2_has (sz : Int32) (x1 : Int32) : Int32 := (g_X3_isBelow x1 sz)
set_option maxHeartbeats 4000000 in
set_option maxRecDepth 100000 in
theorem c_X2_has (l : Launch) (D : va_G) (cA cZ : ClassId) (aT : Nat) (aU : Nat) (aG : Nat) (aE : Nat) (szz : Nat) (sz : Int32) (bf : (Nat → Int32)) (gf : (Nat → Int32)) (ef : (Nat → Int32)) (x1 : Int32) : MetI l yX2_has wsX2_has 1 21 D (tyA cA cZ) [.ref aT, .int x1] (TRw cA aT aU aG aE sz bf gf ef) szz (g_X2_has sz x1) (TRw cA aT aU aG aE sz bf gf ef) := by
  refine Met.ofW (cc := cX2_has) (maxL := 2) (ret := (some .boolean)) (by decide) rfl ?_
  intro p e s m args below meth c s₁ B hml hv
  obtain ⟨rfl, hsz, hP, hK, hD0, hN⟩ := hv
  have hx := B.exec
  have hb := B.bytes
  have hr := B.returns
  have hts := atoms_spec (ws := wsX2_has) B.pre
  have hown : s.vm.findClass RX2 = some m.cls := findClass_of_methodNamed B.named
  have hlocks := B.notSynchronized
  have iX2 : ∀ w ∈ wsX20, w ∈ wsX2_has := fun _ h => List.mem_cons_of_mem _ (List.mem_append_right _ h)
  subst hsz
  have hD := hD0.self (sz := s.heap.size)
  generalize hAe : va_A (TRw cA aT aU aG aE sz bf gf ef) s.heap.size = A at hD ⊢
  have hA : ∀ q : Nat, s.heap.size ≤ q → A q := fun q h => by rw [← hAe]; exact Or.inr h
  have hS : va_S A s.heap s.heap [] := va_S.rf
  have hP : va_P D vwCl (TRw cA aT aU aG aE sz bf gf ef) s.heap := hP
  obtain ⟨G, hG⟩ : ∃ G, G = (g_X2_has sz x1) := ⟨_, rfl⟩
  rw [← hG]
  have hl := lv_entry ([.ref aT, .int x1]) (n := 2) (Nat.le_of_ble_eq_true rfl)
  rw [lg_entry_eq]
  generalize (lg_sl ([.ref aT, .int x1]) ++ List.replicate (2 - (lg_sl ([.ref aT, .int x1])).length) Slot.unset).toArray = ls at hl ⊢
  have hl : lv_has ls 2 [(0, .ref aT), (1, .int x1)] := hl
  refine lv_iload_n hx hb dX2_has_0 rfl (lv_at hl 1 rfl) ?_
  refine lv_aload_n hx hb dX2_has_1 rfl (lv_at hl 0 rfl) ?_
  refine va_get (D := D) (ci := 2) (v := .int sz) (C := RX2) (T := TX2) (N := 4) hx hb hts iX2 hown hK hP 0 rfl rfl 0 (by decide) (hts (.fieldLink RX2 9 "LightBursts$Track" "size" "I") (List.mem_of_getElem? (i := 1) rfl)) (fun _ h9 => h9) rfl dX2_has_2 ?_
  refine kI (wr := TRw cA aT aU aG aE sz bf gf ef) (W1 := ([] : va_W)) (wsN := TRw cA aT aU aG aE sz bf gf ef) (rSN (As := [.int x1, .int sz]) (rest := []) (W0 := ([] : va_W)) ⟨hx, hb, hml, hown, hts⟩ (c_X3_isBelow l D cA cZ s.heap.size x1 sz) ⟨va_cnB 2 hts gX2_has_X3_isBelow_n25 rfl rfl rfl (hN (.methodLinkNest RX2 25 yX3_isBelow RX3) (List.mem_of_getElem? (i := 14) rfl)) (hts (.initialized RX3) (List.mem_of_getElem? (i := 3) rfl)) (by decide +kernel) ⟨Nat.le_of_ble_eq_true rfl, Nat.le_of_ble_eq_true rfl⟩, (hts (.static yX3_isBelow) (List.mem_of_getElem? (i := 2) rfl)), trivial⟩ hP hD hK hN ([] : List Nat) rfl rfl rfl hl.1 rfl (Nat.le_of_ble_eq_true rfl) dX2_has_5 ⟨Nat.zero_le _, Nat.zero_le _⟩) hP hD hS hA [] [0, 1, 2, 3] [0, 1, 2, 3] rfl rfl rfl (by decide) rfl rfl (fun H locs hP hD hS => ?_)
  rw [g_X2_has] at hG
  rw [hG]
  exact W.zret (v := (g_X3_isBelow x1 sz)) hx hb hr (nb_01 (by first | assumption | exact b_isBelow _ _)) (fun t ht hW => ⟨⟨_, (), rfl, rfl, by rw [ht]; exact hP, va_K.moved hW.alike hK, hD⟩, hS.F ht⟩) hS.2.2 dX2_has_8

theorem has_in {a b : Int32} (h : ¬ g_X2_has b a = 0) (hb : b ≤ 48) : vp_in a 48 := by
  have e : (48 : Int32).toInt = 48 := rfl
  rw [Int32.le_iff_toInt_le, e] at hb
  have h1 := below_iff.mp h
  rw [vp_in_iff]; omega

def g_X2_begin (sz : Int32) (gf : (Nat → Int32)) (x1 : Int32) : Int32 := (if (g_X2_has sz x1) = 0 then (-6) else (gf x1.toNatClampNeg))
set_option maxHeartbeats 4000000 in
set_option maxRecDepth 100000 in
theorem c_X2_begin (l : Launch) (D : va_G) (cA cZ : ClassId) (aT : Nat) (aU : Nat) (aG : Nat) (aE : Nat) (szz : Nat) (sz : Int32) (bf : (Nat → Int32)) (gf : (Nat → Int32)) (ef : (Nat → Int32)) (x1 : Int32) (hsz : sz ≤ 48) : MetI l yX2_begin wsX2_begin 2 42 D (tyA cA cZ) [.ref aT, .int x1] (TRw cA aT aU aG aE sz bf gf ef) szz (g_X2_begin sz gf x1) (TRw cA aT aU aG aE sz bf gf ef) := by
  refine Met.ofW (cc := cX2_begin) (maxL := 2) (ret := (some .int)) (by decide) rfl ?_
  intro p e s m args below meth c s₁ B hml hv
  obtain ⟨rfl, hsz, hP, hK, hD0, hN⟩ := hv
  have hx := B.exec
  have hb := B.bytes
  have hr := B.returns
  have hts := atoms_spec (ws := wsX2_begin) B.pre
  have hown : s.vm.findClass RX2 = some m.cls := findClass_of_methodNamed B.named
  have hlocks := B.notSynchronized
  have iX2 : ∀ w ∈ wsX20, w ∈ wsX2_begin := fun _ h => List.mem_cons_of_mem _ (List.mem_append_right _ h)
  subst hsz
  have hD := hD0.self (sz := s.heap.size)
  generalize hAe : va_A (TRw cA aT aU aG aE sz bf gf ef) s.heap.size = A at hD ⊢
  have hA : ∀ q : Nat, s.heap.size ≤ q → A q := fun q h => by rw [← hAe]; exact Or.inr h
  have hS : va_S A s.heap s.heap [] := va_S.rf
  have hP : va_P D vwCl (TRw cA aT aU aG aE sz bf gf ef) s.heap := hP
  obtain ⟨G, hG⟩ : ∃ G, G = (g_X2_begin sz gf x1) := ⟨_, rfl⟩
  rw [← hG]
  have hl := lv_entry ([.ref aT, .int x1]) (n := 2) (Nat.le_of_ble_eq_true rfl)
  rw [lg_entry_eq]
  generalize (lg_sl ([.ref aT, .int x1]) ++ List.replicate (2 - (lg_sl ([.ref aT, .int x1])).length) Slot.unset).toArray = ls at hl ⊢
  have hl : lv_has ls 2 [(0, .ref aT), (1, .int x1)] := hl
  refine lv_aload_n hx hb dX2_begin_0 rfl (lv_at hl 0 rfl) ?_
  refine lv_iload_n hx hb dX2_begin_1 rfl (lv_at hl 1 rfl) ?_
  refine kI (wr := ([] : va_W)) (W1 := TRw cA aT aU aG aE sz bf gf ef) (wsN := TRw cA aT aU aG aE sz bf gf ef) (rV (As := [.int x1]) (rest := []) (W0 := TRw cA aT aU aG aE sz bf gf ef) ⟨hx, hb, hml, hown, hts⟩ (c_X2_has l D cA cZ aT aU aG aE s.heap.size sz bf gf ef x1) (cwV 1 hts gX2_begin_X2_has rfl rfl rfl (by decide +kernel) ⟨Nat.le_of_ble_eq_true rfl, Nat.le_of_ble_eq_true rfl⟩) hP hD hK hN ([0, 1, 2, 3] : List Nat) rfl rfl 2 0 rfl rfl rfl hl.1 rfl (Nat.le_of_ble_eq_true rfl) dX2_begin_2 ⟨Nat.zero_le _, Nat.zero_le _⟩) hP hD hS hA [0, 1, 2, 3] [] [0, 1, 2, 3] rfl rfl rfl (by decide) rfl rfl (fun H locs hP hD hS => ?_)
  refine lv_if_eq (tgt := 17) hx hb dX2_begin_5 (by decide) (fun c_1 => ?_) (fun c_1 => ?_)
  · refine lv_bipush (v := (-6)) hx hb dX2_begin_17 (by decide) ?_
    rw [g_X2_begin, if_pos c_1] at hG
    rw [hG]
    exact W.iret (v := (-6)) hx hb hr (fun t ht hW => ⟨⟨_, (), rfl, rfl, by rw [ht]; exact hP, va_K.moved hW.alike hK, hD⟩, hS.F ht⟩) hS.2.2 dX2_begin_19
  · refine lv_aload_n hx hb dX2_begin_8 rfl (lv_at hl 0 rfl) ?_
    refine va_get (D := D) (ci := 2) (v := .ref aG) (C := RX2) (T := TX2) (N := 4) hx hb hts iX2 hown hK hP 0 rfl rfl 2 (by decide) (hts (.fieldLink RX2 19 "LightBursts$Track" "begins" "[I") (List.mem_of_getElem? (i := 1) rfl)) (fun _ h9 => h9) rfl dX2_begin_9 ?_
    refine lv_iload_n hx hb dX2_begin_12 rfl (lv_at hl 1 rfl) ?_
    refine va_iald hx hb hK hP 2 0 rfl rfl (has_in c_1 hsz) dX2_begin_13 ?_
    refine lv_goto (tgt := 19) hx hb dX2_begin_14 (by decide) ?_
    rw [g_X2_begin, if_neg c_1] at hG
    rw [hG]
    exact W.iret (v := (gf x1.toNatClampNeg)) hx hb hr (fun t ht hW => ⟨⟨_, (), rfl, rfl, by rw [ht]; exact hP, va_K.moved hW.alike hK, hD⟩, hS.F ht⟩) hS.2.2 dX2_begin_19

def g_X2_ticks (sz : Int32) (gf : (Nat → Int32)) (ef : (Nat → Int32)) (x1 : Int32) : Int32 := (if (g_X2_has sz x1) = 0 then (-6) else ((ef x1.toNatClampNeg) - (gf x1.toNatClampNeg)))
set_option maxHeartbeats 4000000 in
set_option maxRecDepth 100000 in
theorem c_X2_ticks (l : Launch) (D : va_G) (cA cZ : ClassId) (aT : Nat) (aU : Nat) (aG : Nat) (aE : Nat) (szz : Nat) (sz : Int32) (bf : (Nat → Int32)) (gf : (Nat → Int32)) (ef : (Nat → Int32)) (x1 : Int32) (hsz : sz ≤ 48) : MetI l yX2_ticks wsX2_ticks 2 42 D (tyA cA cZ) [.ref aT, .int x1] (TRw cA aT aU aG aE sz bf gf ef) szz (g_X2_ticks sz gf ef x1) (TRw cA aT aU aG aE sz bf gf ef) := by
  refine Met.ofW (cc := cX2_ticks) (maxL := 2) (ret := (some .int)) (by decide) rfl ?_
  intro p e s m args below meth c s₁ B hml hv
  obtain ⟨rfl, hsz, hP, hK, hD0, hN⟩ := hv
  have hx := B.exec
  have hb := B.bytes
  have hr := B.returns
  have hts := atoms_spec (ws := wsX2_ticks) B.pre
  have hown : s.vm.findClass RX2 = some m.cls := findClass_of_methodNamed B.named
  have hlocks := B.notSynchronized
  have iX2 : ∀ w ∈ wsX20, w ∈ wsX2_ticks := fun _ h => List.mem_cons_of_mem _ (List.mem_append_right _ h)
  subst hsz
  have hD := hD0.self (sz := s.heap.size)
  generalize hAe : va_A (TRw cA aT aU aG aE sz bf gf ef) s.heap.size = A at hD ⊢
  have hA : ∀ q : Nat, s.heap.size ≤ q → A q := fun q h => by rw [← hAe]; exact Or.inr h
  have hS : va_S A s.heap s.heap [] := va_S.rf
  have hP : va_P D vwCl (TRw cA aT aU aG aE sz bf gf ef) s.heap := hP
  obtain ⟨G, hG⟩ : ∃ G, G = (g_X2_ticks sz gf ef x1) := ⟨_, rfl⟩
  rw [← hG]
  have hl := lv_entry ([.ref aT, .int x1]) (n := 2) (Nat.le_of_ble_eq_true rfl)
  rw [lg_entry_eq]
  generalize (lg_sl ([.ref aT, .int x1]) ++ List.replicate (2 - (lg_sl ([.ref aT, .int x1])).length) Slot.unset).toArray = ls at hl ⊢
  have hl : lv_has ls 2 [(0, .ref aT), (1, .int x1)] := hl
  refine lv_aload_n hx hb dX2_ticks_0 rfl (lv_at hl 0 rfl) ?_
  refine lv_iload_n hx hb dX2_ticks_1 rfl (lv_at hl 1 rfl) ?_
  refine kI (wr := ([] : va_W)) (W1 := TRw cA aT aU aG aE sz bf gf ef) (wsN := TRw cA aT aU aG aE sz bf gf ef) (rV (As := [.int x1]) (rest := []) (W0 := TRw cA aT aU aG aE sz bf gf ef) ⟨hx, hb, hml, hown, hts⟩ (c_X2_has l D cA cZ aT aU aG aE s.heap.size sz bf gf ef x1) (cwV 1 hts gX2_ticks_X2_has rfl rfl rfl (by decide +kernel) ⟨Nat.le_of_ble_eq_true rfl, Nat.le_of_ble_eq_true rfl⟩) hP hD hK hN ([0, 1, 2, 3] : List Nat) rfl rfl 2 0 rfl rfl rfl hl.1 rfl (Nat.le_of_ble_eq_true rfl) dX2_ticks_2 ⟨Nat.zero_le _, Nat.zero_le _⟩) hP hD hS hA [0, 1, 2, 3] [] [0, 1, 2, 3] rfl rfl rfl (by decide) rfl rfl (fun H locs hP hD hS => ?_)
  refine lv_if_eq (tgt := 24) hx hb dX2_ticks_5 (by decide) (fun c_1 => ?_) (fun c_1 => ?_)
  · refine lv_bipush (v := (-6)) hx hb dX2_ticks_24 (by decide) ?_
    rw [g_X2_ticks, if_pos c_1] at hG
    rw [hG]
    exact W.iret (v := (-6)) hx hb hr (fun t ht hW => ⟨⟨_, (), rfl, rfl, by rw [ht]; exact hP, va_K.moved hW.alike hK, hD⟩, hS.F ht⟩) hS.2.2 dX2_ticks_26
  · refine lv_aload_n hx hb dX2_ticks_8 rfl (lv_at hl 0 rfl) ?_
    refine va_get (D := D) (ci := 2) (v := .ref aE) (C := RX2) (T := TX2) (N := 4) hx hb hts iX2 hown hK hP 0 rfl rfl 3 (by decide) (hts (.fieldLink RX2 22 "LightBursts$Track" "ends" "[I") (List.mem_of_getElem? (i := 1) rfl)) (fun _ h9 => h9) rfl dX2_ticks_9 ?_
    refine lv_iload_n hx hb dX2_ticks_12 rfl (lv_at hl 1 rfl) ?_
    refine va_iald hx hb hK hP 3 0 rfl rfl (has_in c_1 hsz) dX2_ticks_13 ?_
    refine lv_aload_n hx hb dX2_ticks_14 rfl (lv_at hl 0 rfl) ?_
    refine va_get (D := D) (ci := 2) (v := .ref aG) (C := RX2) (T := TX2) (N := 4) hx hb hts iX2 hown hK hP 0 rfl rfl 2 (by decide) (hts (.fieldLink RX2 19 "LightBursts$Track" "begins" "[I") (List.mem_of_getElem? (i := 2) rfl)) (fun _ h9 => h9) rfl dX2_ticks_15 ?_
    refine lv_iload_n hx hb dX2_ticks_18 rfl (lv_at hl 1 rfl) ?_
    refine va_iald hx hb hK hP 2 0 rfl rfl (has_in c_1 hsz) dX2_ticks_19 ?_
    refine lv_isub hx hb dX2_ticks_20 ?_
    refine lv_goto (tgt := 26) hx hb dX2_ticks_21 (by decide) ?_
    rw [g_X2_ticks, if_neg c_1] at hG
    rw [hG]
    exact W.iret (v := ((ef x1.toNatClampNeg) - (gf x1.toNatClampNeg))) hx hb hr (fun t ht hW => ⟨⟨_, (), rfl, rfl, by rw [ht]; exact hP, va_K.moved hW.alike hK, hD⟩, hS.F ht⟩) hS.2.2 dX2_ticks_26

def g_X2_burstOf (sz : Int32) (bf : (Nat → Int32)) (x1 : Int32) : Int32 := (if (g_X2_has sz x1) = 0 then (-6) else (bf x1.toNatClampNeg))
set_option maxHeartbeats 4000000 in
set_option maxRecDepth 100000 in
theorem c_X2_burstOf (l : Launch) (D : va_G) (cA cZ : ClassId) (aT : Nat) (aU : Nat) (aG : Nat) (aE : Nat) (szz : Nat) (sz : Int32) (bf : (Nat → Int32)) (gf : (Nat → Int32)) (ef : (Nat → Int32)) (x1 : Int32) (hsz : sz ≤ 48) : MetI l yX2_burstOf wsX2_burstOf 2 42 D (tyA cA cZ) [.ref aT, .int x1] (TRw cA aT aU aG aE sz bf gf ef) szz (g_X2_burstOf sz bf x1) (TRw cA aT aU aG aE sz bf gf ef) := by
  refine Met.ofW (cc := cX2_burstOf) (maxL := 2) (ret := (some .int)) (by decide) rfl ?_
  intro p e s m args below meth c s₁ B hml hv
  obtain ⟨rfl, hsz, hP, hK, hD0, hN⟩ := hv
  have hx := B.exec
  have hb := B.bytes
  have hr := B.returns
  have hts := atoms_spec (ws := wsX2_burstOf) B.pre
  have hown : s.vm.findClass RX2 = some m.cls := findClass_of_methodNamed B.named
  have hlocks := B.notSynchronized
  have iX2 : ∀ w ∈ wsX20, w ∈ wsX2_burstOf := fun _ h => List.mem_cons_of_mem _ (List.mem_append_right _ h)
  subst hsz
  have hD := hD0.self (sz := s.heap.size)
  generalize hAe : va_A (TRw cA aT aU aG aE sz bf gf ef) s.heap.size = A at hD ⊢
  have hA : ∀ q : Nat, s.heap.size ≤ q → A q := fun q h => by rw [← hAe]; exact Or.inr h
  have hS : va_S A s.heap s.heap [] := va_S.rf
  have hP : va_P D vwCl (TRw cA aT aU aG aE sz bf gf ef) s.heap := hP
  obtain ⟨G, hG⟩ : ∃ G, G = (g_X2_burstOf sz bf x1) := ⟨_, rfl⟩
  rw [← hG]
  have hl := lv_entry ([.ref aT, .int x1]) (n := 2) (Nat.le_of_ble_eq_true rfl)
  rw [lg_entry_eq]
  generalize (lg_sl ([.ref aT, .int x1]) ++ List.replicate (2 - (lg_sl ([.ref aT, .int x1])).length) Slot.unset).toArray = ls at hl ⊢
  have hl : lv_has ls 2 [(0, .ref aT), (1, .int x1)] := hl
  refine lv_aload_n hx hb dX2_burstOf_0 rfl (lv_at hl 0 rfl) ?_
  refine lv_iload_n hx hb dX2_burstOf_1 rfl (lv_at hl 1 rfl) ?_
  refine kI (wr := ([] : va_W)) (W1 := TRw cA aT aU aG aE sz bf gf ef) (wsN := TRw cA aT aU aG aE sz bf gf ef) (rV (As := [.int x1]) (rest := []) (W0 := TRw cA aT aU aG aE sz bf gf ef) ⟨hx, hb, hml, hown, hts⟩ (c_X2_has l D cA cZ aT aU aG aE s.heap.size sz bf gf ef x1) (cwV 1 hts gX2_burstOf_X2_has rfl rfl rfl (by decide +kernel) ⟨Nat.le_of_ble_eq_true rfl, Nat.le_of_ble_eq_true rfl⟩) hP hD hK hN ([0, 1, 2, 3] : List Nat) rfl rfl 2 0 rfl rfl rfl hl.1 rfl (Nat.le_of_ble_eq_true rfl) dX2_burstOf_2 ⟨Nat.zero_le _, Nat.zero_le _⟩) hP hD hS hA [0, 1, 2, 3] [] [0, 1, 2, 3] rfl rfl rfl (by decide) rfl rfl (fun H locs hP hD hS => ?_)
  refine lv_if_eq (tgt := 17) hx hb dX2_burstOf_5 (by decide) (fun c_1 => ?_) (fun c_1 => ?_)
  · refine lv_bipush (v := (-6)) hx hb dX2_burstOf_17 (by decide) ?_
    rw [g_X2_burstOf, if_pos c_1] at hG
    rw [hG]
    exact W.iret (v := (-6)) hx hb hr (fun t ht hW => ⟨⟨_, (), rfl, rfl, by rw [ht]; exact hP, va_K.moved hW.alike hK, hD⟩, hS.F ht⟩) hS.2.2 dX2_burstOf_19
  · refine lv_aload_n hx hb dX2_burstOf_8 rfl (lv_at hl 0 rfl) ?_
    refine va_get (D := D) (ci := 2) (v := .ref aU) (C := RX2) (T := TX2) (N := 4) hx hb hts iX2 hown hK hP 0 rfl rfl 1 (by decide) (hts (.fieldLink RX2 15 "LightBursts$Track" "bursts" "[I") (List.mem_of_getElem? (i := 1) rfl)) (fun _ h9 => h9) rfl dX2_burstOf_9 ?_
    refine lv_iload_n hx hb dX2_burstOf_12 rfl (lv_at hl 1 rfl) ?_
    refine va_iald hx hb hK hP 1 0 rfl rfl (has_in c_1 hsz) dX2_burstOf_13 ?_
    refine lv_goto (tgt := 19) hx hb dX2_burstOf_14 (by decide) ?_
    rw [g_X2_burstOf, if_neg c_1] at hG
    rw [hG]
    exact W.iret (v := (bf x1.toNatClampNeg)) hx hb hr (fun t ht hW => ⟨⟨_, (), rfl, rfl, by rw [ht]; exact hP, va_K.moved hW.alike hK, hD⟩, hS.F ht⟩) hS.2.2 dX2_burstOf_19

def g_X2_lastEnd (sz : Int32) (ef : (Nat → Int32)) : Int32 := (if (g_X2_has sz (sz - 1)) = 0 then (-6) else (ef (sz - 1).toNatClampNeg))
set_option maxHeartbeats 4000000 in
set_option maxRecDepth 100000 in
theorem c_X2_lastEnd (l : Launch) (D : va_G) (cA cZ : ClassId) (aT : Nat) (aU : Nat) (aG : Nat) (aE : Nat) (szz : Nat) (sz : Int32) (bf : (Nat → Int32)) (gf : (Nat → Int32)) (ef : (Nat → Int32)) (hsz : sz ≤ 48) : MetI l yX2_lastEnd wsX2_lastEnd 2 42 D (tyA cA cZ) [.ref aT] (TRw cA aT aU aG aE sz bf gf ef) szz (g_X2_lastEnd sz ef) (TRw cA aT aU aG aE sz bf gf ef) := by
  refine Met.ofW (cc := cX2_lastEnd) (maxL := 1) (ret := (some .int)) (by decide) rfl ?_
  intro p e s m args below meth c s₁ B hml hv
  obtain ⟨rfl, hsz, hP, hK, hD0, hN⟩ := hv
  have hx := B.exec
  have hb := B.bytes
  have hr := B.returns
  have hts := atoms_spec (ws := wsX2_lastEnd) B.pre
  have hown : s.vm.findClass RX2 = some m.cls := findClass_of_methodNamed B.named
  have hlocks := B.notSynchronized
  have iX2 : ∀ w ∈ wsX20, w ∈ wsX2_lastEnd := fun _ h => List.mem_cons_of_mem _ (List.mem_append_right _ h)
  subst hsz
  have hD := hD0.self (sz := s.heap.size)
  generalize hAe : va_A (TRw cA aT aU aG aE sz bf gf ef) s.heap.size = A at hD ⊢
  have hA : ∀ q : Nat, s.heap.size ≤ q → A q := fun q h => by rw [← hAe]; exact Or.inr h
  have hS : va_S A s.heap s.heap [] := va_S.rf
  have hP : va_P D vwCl (TRw cA aT aU aG aE sz bf gf ef) s.heap := hP
  obtain ⟨G, hG⟩ : ∃ G, G = (g_X2_lastEnd sz ef) := ⟨_, rfl⟩
  rw [← hG]
  have hl := lv_entry ([.ref aT]) (n := 1) (Nat.le_of_ble_eq_true rfl)
  rw [lg_entry_eq]
  generalize (lg_sl ([.ref aT]) ++ List.replicate (1 - (lg_sl ([.ref aT])).length) Slot.unset).toArray = ls at hl ⊢
  have hl : lv_has ls 1 [(0, .ref aT)] := hl
  refine lv_aload_n hx hb dX2_lastEnd_0 rfl (lv_at hl 0 rfl) ?_
  refine lv_aload_n hx hb dX2_lastEnd_1 rfl (lv_at hl 0 rfl) ?_
  refine va_get (D := D) (ci := 2) (v := .int sz) (C := RX2) (T := TX2) (N := 4) hx hb hts iX2 hown hK hP 0 rfl rfl 0 (by decide) (hts (.fieldLink RX2 9 "LightBursts$Track" "size" "I") (List.mem_of_getElem? (i := 1) rfl)) (fun _ h9 => h9) rfl dX2_lastEnd_2 ?_
  refine lv_iconst (v := 1) hx hb dX2_lastEnd_5 (by decide) ?_
  refine lv_isub hx hb dX2_lastEnd_6 ?_
  refine kI (wr := ([] : va_W)) (W1 := TRw cA aT aU aG aE sz bf gf ef) (wsN := TRw cA aT aU aG aE sz bf gf ef) (rV (As := [.int (sz - 1)]) (rest := []) (W0 := TRw cA aT aU aG aE sz bf gf ef) ⟨hx, hb, hml, hown, hts⟩ (c_X2_has l D cA cZ aT aU aG aE s.heap.size sz bf gf ef (sz - 1)) (cwV 1 hts gX2_lastEnd_X2_has rfl rfl rfl (by decide +kernel) ⟨Nat.le_of_ble_eq_true rfl, Nat.le_of_ble_eq_true rfl⟩) hP hD hK hN ([0, 1, 2, 3] : List Nat) rfl rfl 2 0 rfl rfl rfl hl.1 rfl (Nat.le_of_ble_eq_true rfl) dX2_lastEnd_7 ⟨Nat.zero_le _, Nat.zero_le _⟩) hP hD hS hA [0, 1, 2, 3] [] [0, 1, 2, 3] rfl rfl rfl (by decide) rfl rfl (fun H locs hP hD hS => ?_)
  refine lv_if_eq (tgt := 27) hx hb dX2_lastEnd_10 (by decide) (fun c_1 => ?_) (fun c_1 => ?_)
  · refine lv_bipush (v := (-6)) hx hb dX2_lastEnd_27 (by decide) ?_
    rw [g_X2_lastEnd, if_pos c_1] at hG
    rw [hG]
    exact W.iret (v := (-6)) hx hb hr (fun t ht hW => ⟨⟨_, (), rfl, rfl, by rw [ht]; exact hP, va_K.moved hW.alike hK, hD⟩, hS.F ht⟩) hS.2.2 dX2_lastEnd_29
  · refine lv_aload_n hx hb dX2_lastEnd_13 rfl (lv_at hl 0 rfl) ?_
    refine va_get (D := D) (ci := 2) (v := .ref aE) (C := RX2) (T := TX2) (N := 4) hx hb hts iX2 hown hK hP 0 rfl rfl 3 (by decide) (hts (.fieldLink RX2 22 "LightBursts$Track" "ends" "[I") (List.mem_of_getElem? (i := 2) rfl)) (fun _ h9 => h9) rfl dX2_lastEnd_14 ?_
    refine lv_aload_n hx hb dX2_lastEnd_17 rfl (lv_at hl 0 rfl) ?_
    refine va_get (D := D) (ci := 2) (v := .int sz) (C := RX2) (T := TX2) (N := 4) hx hb hts iX2 hown hK hP 0 rfl rfl 0 (by decide) (hts (.fieldLink RX2 9 "LightBursts$Track" "size" "I") (List.mem_of_getElem? (i := 1) rfl)) (fun _ h9 => h9) rfl dX2_lastEnd_18 ?_
    refine lv_iconst (v := 1) hx hb dX2_lastEnd_21 (by decide) ?_
    refine lv_isub hx hb dX2_lastEnd_22 ?_
    refine va_iald hx hb hK hP 3 0 rfl rfl (has_in c_1 hsz) dX2_lastEnd_23 ?_
    refine lv_goto (tgt := 29) hx hb dX2_lastEnd_24 (by decide) ?_
    rw [g_X2_lastEnd, if_neg c_1] at hG
    rw [hG]
    exact W.iret (v := (ef (sz - 1).toNatClampNeg)) hx hb hr (fun t ht hW => ⟨⟨_, (), rfl, rfl, by rw [ht]; exact hP, va_K.moved hW.alike hK, hD⟩, hS.F ht⟩) hS.2.2 dX2_lastEnd_29

def g_X2_lastEndUpTo_L5 (sz : Int32) (ef : (Nat → Int32)) (x1 : Int32) : Nat → Int32 → Int32 → (Int32)
  | 0, _, _ => 0
  | n + 1, v3, v4 => (if sz ≤ v4 then v3 else (if x1 < (ef v4.toNatClampNeg) then (g_X2_lastEndUpTo_L5 sz ef x1 n v3 (v4 + 1)) else (g_X2_lastEndUpTo_L5 sz ef x1 n (if v3 < (ef v4.toNatClampNeg) then (ef v4.toNatClampNeg) else v3) (v4 + 1))))
def g_X2_lastEndUpTo (sz : Int32) (ef : (Nat → Int32)) (x1 : Int32) (x2 : Int32) : Int32 := (g_X2_lastEndUpTo_L5 sz ef x1 (((sz).toInt - ((0 : Int32)).toInt).toNat + 1) x2 0)
set_option maxHeartbeats 4000000 in
set_option maxRecDepth 100000 in
theorem c_X2_lastEndUpTo (l : Launch) (D : va_G) (cA cZ : ClassId) (aT : Nat) (aU : Nat) (aG : Nat) (aE : Nat) (szz : Nat) (sz : Int32) (bf : (Nat → Int32)) (gf : (Nat → Int32)) (ef : (Nat → Int32)) (x1 : Int32) (x2 : Int32) (hsz : sz ≤ 48) : MetI l yX2_lastEndUpTo wsX2_lastEndUpTo 1 21 D (tyA cA cZ) [.ref aT, .int x1, .int x2] (TRw cA aT aU aG aE sz bf gf ef) szz (g_X2_lastEndUpTo sz ef x1 x2) (TRw cA aT aU aG aE sz bf gf ef) := by
  refine Met.ofW (cc := cX2_lastEndUpTo) (maxL := 5) (ret := (some .int)) (by decide) rfl ?_
  intro p e s m args below meth c s₁ B hml hv
  obtain ⟨rfl, hsz, hP, hK, hD0, hN⟩ := hv
  have hx := B.exec
  have hb := B.bytes
  have hr := B.returns
  have hts := atoms_spec (ws := wsX2_lastEndUpTo) B.pre
  have hown : s.vm.findClass RX2 = some m.cls := findClass_of_methodNamed B.named
  have hlocks := B.notSynchronized
  have iX2 : ∀ w ∈ wsX20, w ∈ wsX2_lastEndUpTo := fun _ h => List.mem_cons_of_mem _ (List.mem_append_right _ h)
  subst hsz
  have hD := hD0.self (sz := s.heap.size)
  generalize hAe : va_A (TRw cA aT aU aG aE sz bf gf ef) s.heap.size = A at hD ⊢
  have hA : ∀ q : Nat, s.heap.size ≤ q → A q := fun q h => by rw [← hAe]; exact Or.inr h
  have hS : va_S A s.heap s.heap [] := va_S.rf
  have hP : va_P D vwCl (TRw cA aT aU aG aE sz bf gf ef) s.heap := hP
  obtain ⟨G, hG⟩ : ∃ G, G = (g_X2_lastEndUpTo sz ef x1 x2) := ⟨_, rfl⟩
  rw [← hG]
  have hl := lv_entry ([.ref aT, .int x1, .int x2]) (n := 5) (Nat.le_of_ble_eq_true rfl)
  rw [lg_entry_eq]
  generalize (lg_sl ([.ref aT, .int x1, .int x2]) ++ List.replicate (5 - (lg_sl ([.ref aT, .int x1, .int x2])).length) Slot.unset).toArray = ls at hl ⊢
  have hl : lv_has ls 5 [(0, .ref aT), (1, .int x1), (2, .int x2)] := hl
  refine lv_iload_n hx hb dX2_lastEndUpTo_0 rfl (lv_at hl 2 rfl) ?_
  refine lv_istore_n (lv' := [(3, .int x2), (0, .ref aT), (1, .int x1), (2, .int x2)]) hx hb dX2_lastEndUpTo_1 rfl hl (by decide) rfl (fun ls hl => ?_)
  refine lv_iconst (v := 0) hx hb dX2_lastEndUpTo_2 (by decide) ?_
  refine lv_istore (lv' := [(4, .int 0), (3, .int x2), (0, .ref aT), (1, .int x1), (2, .int x2)]) hx hb dX2_lastEndUpTo_3 hl (by decide) rfl (fun ls hl => ?_)
  rw [g_X2_lastEndUpTo] at hG
  refine (?_ : ∀ (n : Nat) (v3 : Int32) (v4 : Int32) (H : Heap) (locs : List Loc) (ls : Array Slot), (0 ≤ v4) → ((sz).toInt - (v4).toInt).toNat < n → G = g_X2_lastEndUpTo_L5 sz ef x1 n v3 v4 → va_P D vwCl (TRw cA aT aU aG aE sz bf gf ef) H → va_D A (TRw cA aT aU aG aE sz bf gf ef) → va_S A s.heap H locs → lv_has ls 5 [(0, .ref aT), (1, .int x1), (2, .int x2), (3, .int v3), (4, .int v4)] → W p l e _ s m _ below meth c H locs _ _ _ (F0 m 5 ls [])) (((sz).toInt - ((0 : Int32)).toInt).toNat + 1) x2 0 _ _ _ (by decide) (Nat.lt_succ_self _) hG hP hD hS (lv_sub hl [2, 3, 4, 1, 0] rfl)
  clear hG hP hD hS hl
  intro n
  induction n with
  | zero => intros; omega
  | succ n5 ih5 =>
    intro v3 v4 H locs ls h0 hm5 hG hP hD hS hl
    refine lv_iload hx hb dX2_lastEndUpTo_5 (lv_at hl 4 rfl) ?_
    refine lv_aload_n hx hb dX2_lastEndUpTo_7 rfl (lv_at hl 0 rfl) ?_
    refine va_get (D := D) (ci := 2) (v := .int sz) (C := RX2) (T := TX2) (N := 4) hx hb hts iX2 hown hK hP 0 rfl rfl 0 (by decide) (hts (.fieldLink RX2 9 "LightBursts$Track" "size" "I") (List.mem_of_getElem? (i := 1) rfl)) (fun _ h9 => h9) rfl dX2_lastEndUpTo_8 ?_
    refine lv_icmp_ge (tgt := 43) hx hb dX2_lastEndUpTo_11 (by decide) (fun c_1 => ?_) (fun c_1 => ?_)
    · refine lv_iload_n hx hb dX2_lastEndUpTo_43 rfl (lv_at hl 3 rfl) ?_
      rw [g_X2_lastEndUpTo_L5, if_pos c_1] at hG
      rw [hG]
      exact W.iret (v := v3) hx hb hr (fun t ht hW => ⟨⟨_, (), rfl, rfl, by rw [ht]; exact hP, va_K.moved hW.alike hK, hD⟩, hS.F ht⟩) hS.2.2 dX2_lastEndUpTo_44
    · refine lv_aload_n hx hb dX2_lastEndUpTo_14 rfl (lv_at hl 0 rfl) ?_
      refine va_get (D := D) (ci := 2) (v := .ref aE) (C := RX2) (T := TX2) (N := 4) hx hb hts iX2 hown hK hP 0 rfl rfl 3 (by decide) (hts (.fieldLink RX2 22 "LightBursts$Track" "ends" "[I") (List.mem_of_getElem? (i := 2) rfl)) (fun _ h9 => h9) rfl dX2_lastEndUpTo_15 ?_
      refine lv_iload hx hb dX2_lastEndUpTo_18 (lv_at hl 4 rfl) ?_
      refine va_iald hx hb hK hP 3 0 rfl rfl (vin48 h0 c_1 hsz) dX2_lastEndUpTo_20 ?_
      refine lv_iload_n hx hb dX2_lastEndUpTo_21 rfl (lv_at hl 1 rfl) ?_
      refine lv_icmp_gt (tgt := 37) hx hb dX2_lastEndUpTo_22 (by decide) (fun c_2 => ?_) (fun c_2 => ?_)
      · refine lv_iinc (v := (v4 + 1)) (lv' := [(4, .int (v4 + 1)), (0, .ref aT), (1, .int x1), (2, .int x2), (3, .int v3)]) hx hb dX2_lastEndUpTo_37 hl (k := 4) rfl rfl (by decide) rfl (fun ls hl => ?_)
        refine lv_goto (tgt := 5) hx hb dX2_lastEndUpTo_40 (by decide) ?_
        rw [g_X2_lastEndUpTo_L5, if_neg c_1, if_pos c_2] at hG
        exact ih5 v3 (v4 + 1) _ _ _ (by exact up_ge h0 c_1) (by exact ms_up c_1 hm5) hG hP hD hS (lv_sub hl [1, 2, 3, 4, 0] rfl)
      · refine lv_iload_n hx hb dX2_lastEndUpTo_25 rfl (lv_at hl 3 rfl) ?_
        refine lv_aload_n hx hb dX2_lastEndUpTo_26 rfl (lv_at hl 0 rfl) ?_
        refine va_get (D := D) (ci := 2) (v := .ref aE) (C := RX2) (T := TX2) (N := 4) hx hb hts iX2 hown hK hP 0 rfl rfl 3 (by decide) (hts (.fieldLink RX2 22 "LightBursts$Track" "ends" "[I") (List.mem_of_getElem? (i := 2) rfl)) (fun _ h9 => h9) rfl dX2_lastEndUpTo_27 ?_
        refine lv_iload hx hb dX2_lastEndUpTo_30 (lv_at hl 4 rfl) ?_
        refine va_iald hx hb hK hP 3 0 rfl rfl (vin48 h0 c_1 hsz) dX2_lastEndUpTo_32 ?_
        refine va_mmax hx hb (hml.trans hl.1.symm) hown (hts (.methodLink RX2 33 Lib.Math.max.name) (List.mem_of_getElem? (i := 3) rfl)) (hts (.static Lib.Math.max.name) (List.mem_of_getElem? (i := 4) rfl)) (hts (.initialized "java/lang/Math") (List.mem_of_getElem? (i := 5) rfl)) (hts (.code Lib.Math.max.name Lib.Math.max.code 2 (some .int)) (List.mem_of_getElem? (i := 6) rfl)) (Nat.le_of_ble_eq_true rfl) (Nat.le_of_ble_eq_true rfl) (Nat.zero_le _) (Nat.zero_le _) dX2_lastEndUpTo_33 ?_
        refine lv_istore_n (lv' := [(3, .int (if v3 < (ef v4.toNatClampNeg) then (ef v4.toNatClampNeg) else v3)), (0, .ref aT), (1, .int x1), (2, .int x2), (4, .int v4)]) hx hb dX2_lastEndUpTo_36 rfl hl (by decide) rfl (fun ls hl => ?_)
        refine lv_iinc (v := (v4 + 1)) (lv' := [(4, .int (v4 + 1)), (3, .int (if v3 < (ef v4.toNatClampNeg) then (ef v4.toNatClampNeg) else v3)), (0, .ref aT), (1, .int x1), (2, .int x2)]) hx hb dX2_lastEndUpTo_37 hl (k := 4) rfl rfl (by decide) rfl (fun ls hl => ?_)
        refine lv_goto (tgt := 5) hx hb dX2_lastEndUpTo_40 (by decide) ?_
        rw [g_X2_lastEndUpTo_L5, if_neg c_1, if_neg c_2] at hG
        exact ih5 (if v3 < (ef v4.toNatClampNeg) then (ef v4.toNatClampNeg) else v3) (v4 + 1) _ _ _ (by exact up_ge h0 c_1) (by exact ms_up c_1 hm5) hG hP hD hS (lv_sub hl [2, 3, 4, 1, 0] rfl)

def g_X2_room_L6 (sz : Int32) (gf : (Nat → Int32)) (ef : (Nat → Int32)) (x1 : Int32) (x3 : Int32) : Nat → Int32 → Int32 → (Int32)
  | 0, _, _ => 0
  | n + 1, v4, v5 => (if sz ≤ v5 then (if 0 < (v4 - x1) then (v4 - x1) else 0) else (if (ef v5.toNatClampNeg) ≤ x1 then (g_X2_room_L6 sz gf ef x1 x3 n v4 (v5 + 1)) else (if x3 = 0 then (g_X2_room_L6 sz gf ef x1 x3 n (if x1 < v4 then x1 else v4) (v5 + 1)) else (g_X2_room_L6 sz gf ef x1 x3 n (if (gf v5.toNatClampNeg) < v4 then (gf v5.toNatClampNeg) else v4) (v5 + 1)))))
def g_X2_room (sz : Int32) (gf : (Nat → Int32)) (ef : (Nat → Int32)) (x1 : Int32) (x2 : Int32) (x3 : Int32) : Int32 := (g_X2_room_L6 sz gf ef x1 x3 (((sz).toInt - ((0 : Int32)).toInt).toNat + 1) x2 0)
set_option maxHeartbeats 4000000 in
set_option maxRecDepth 100000 in
theorem c_X2_room (l : Launch) (D : va_G) (cA cZ : ClassId) (aT : Nat) (aU : Nat) (aG : Nat) (aE : Nat) (szz : Nat) (sz : Int32) (bf : (Nat → Int32)) (gf : (Nat → Int32)) (ef : (Nat → Int32)) (x1 : Int32) (x2 : Int32) (x3 : Int32) (hsz : sz ≤ 48) : MetI l yX2_room wsX2_room 1 21 D (tyA cA cZ) [.ref aT, .int x1, .int x2, .int x3] (TRw cA aT aU aG aE sz bf gf ef) szz (g_X2_room sz gf ef x1 x2 x3) (TRw cA aT aU aG aE sz bf gf ef) := by
  refine Met.ofW (cc := cX2_room) (maxL := 6) (ret := (some .int)) (by decide) rfl ?_
  intro p e s m args below meth c s₁ B hml hv
  obtain ⟨rfl, hsz, hP, hK, hD0, hN⟩ := hv
  have hx := B.exec
  have hb := B.bytes
  have hr := B.returns
  have hts := atoms_spec (ws := wsX2_room) B.pre
  have hown : s.vm.findClass RX2 = some m.cls := findClass_of_methodNamed B.named
  have hlocks := B.notSynchronized
  have iX2 : ∀ w ∈ wsX20, w ∈ wsX2_room := fun _ h => List.mem_cons_of_mem _ (List.mem_append_right _ h)
  subst hsz
  have hD := hD0.self (sz := s.heap.size)
  generalize hAe : va_A (TRw cA aT aU aG aE sz bf gf ef) s.heap.size = A at hD ⊢
  have hA : ∀ q : Nat, s.heap.size ≤ q → A q := fun q h => by rw [← hAe]; exact Or.inr h
  have hS : va_S A s.heap s.heap [] := va_S.rf
  have hP : va_P D vwCl (TRw cA aT aU aG aE sz bf gf ef) s.heap := hP
  obtain ⟨G, hG⟩ : ∃ G, G = (g_X2_room sz gf ef x1 x2 x3) := ⟨_, rfl⟩
  rw [← hG]
  have hl := lv_entry ([.ref aT, .int x1, .int x2, .int x3]) (n := 6) (Nat.le_of_ble_eq_true rfl)
  rw [lg_entry_eq]
  generalize (lg_sl ([.ref aT, .int x1, .int x2, .int x3]) ++ List.replicate (6 - (lg_sl ([.ref aT, .int x1, .int x2, .int x3])).length) Slot.unset).toArray = ls at hl ⊢
  have hl : lv_has ls 6 [(0, .ref aT), (1, .int x1), (2, .int x2), (3, .int x3)] := hl
  refine lv_iload_n hx hb dX2_room_0 rfl (lv_at hl 2 rfl) ?_
  refine lv_istore (lv' := [(4, .int x2), (0, .ref aT), (1, .int x1), (2, .int x2), (3, .int x3)]) hx hb dX2_room_1 hl (by decide) rfl (fun ls hl => ?_)
  refine lv_iconst (v := 0) hx hb dX2_room_3 (by decide) ?_
  refine lv_istore (lv' := [(5, .int 0), (4, .int x2), (0, .ref aT), (1, .int x1), (2, .int x2), (3, .int x3)]) hx hb dX2_room_4 hl (by decide) rfl (fun ls hl => ?_)
  rw [g_X2_room] at hG
  refine (?_ : ∀ (n : Nat) (v4 : Int32) (v5 : Int32) (H : Heap) (locs : List Loc) (ls : Array Slot), (0 ≤ v5) → ((sz).toInt - (v5).toInt).toNat < n → G = g_X2_room_L6 sz gf ef x1 x3 n v4 v5 → va_P D vwCl (TRw cA aT aU aG aE sz bf gf ef) H → va_D A (TRw cA aT aU aG aE sz bf gf ef) → va_S A s.heap H locs → lv_has ls 6 [(0, .ref aT), (1, .int x1), (2, .int x2), (3, .int x3), (4, .int v4), (5, .int v5)] → W p l e _ s m _ below meth c H locs _ _ _ (F0 m 6 ls [])) (((sz).toInt - ((0 : Int32)).toInt).toNat + 1) x2 0 _ _ _ (by decide) (Nat.lt_succ_self _) hG hP hD hS (lv_sub hl [2, 3, 4, 5, 1, 0] rfl)
  clear hG hP hD hS hl
  intro n
  induction n with
  | zero => intros; omega
  | succ n6 ih6 =>
    intro v4 v5 H locs ls h0 hm6 hG hP hD hS hl
    refine lv_iload hx hb dX2_room_6 (lv_at hl 5 rfl) ?_
    refine lv_aload_n hx hb dX2_room_8 rfl (lv_at hl 0 rfl) ?_
    refine va_get (D := D) (ci := 2) (v := .int sz) (C := RX2) (T := TX2) (N := 4) hx hb hts iX2 hown hK hP 0 rfl rfl 0 (by decide) (hts (.fieldLink RX2 9 "LightBursts$Track" "size" "I") (List.mem_of_getElem? (i := 1) rfl)) (fun _ h9 => h9) rfl dX2_room_9 ?_
    refine lv_icmp_ge (tgt := 54) hx hb dX2_room_12 (by decide) (fun c_1 => ?_) (fun c_1 => ?_)
    · refine lv_iconst (v := 0) hx hb dX2_room_54 (by decide) ?_
      refine lv_iload hx hb dX2_room_55 (lv_at hl 4 rfl) ?_
      refine lv_iload_n hx hb dX2_room_57 rfl (lv_at hl 1 rfl) ?_
      refine lv_isub hx hb dX2_room_58 ?_
      refine va_mmax hx hb (hml.trans hl.1.symm) hown (hts (.methodLink RX2 33 Lib.Math.max.name) (List.mem_of_getElem? (i := 8) rfl)) (hts (.static Lib.Math.max.name) (List.mem_of_getElem? (i := 9) rfl)) (hts (.initialized "java/lang/Math") (List.mem_of_getElem? (i := 6) rfl)) (hts (.code Lib.Math.max.name Lib.Math.max.code 2 (some .int)) (List.mem_of_getElem? (i := 10) rfl)) (Nat.le_of_ble_eq_true rfl) (Nat.le_of_ble_eq_true rfl) (Nat.zero_le _) (Nat.zero_le _) dX2_room_59 ?_
      rw [g_X2_room_L6, if_pos c_1] at hG
      rw [hG]
      exact W.iret (v := (if 0 < (v4 - x1) then (v4 - x1) else 0)) hx hb hr (fun t ht hW => ⟨⟨_, (), rfl, rfl, by rw [ht]; exact hP, va_K.moved hW.alike hK, hD⟩, hS.F ht⟩) hS.2.2 dX2_room_62
    · refine lv_aload_n hx hb dX2_room_15 rfl (lv_at hl 0 rfl) ?_
      refine va_get (D := D) (ci := 2) (v := .ref aE) (C := RX2) (T := TX2) (N := 4) hx hb hts iX2 hown hK hP 0 rfl rfl 3 (by decide) (hts (.fieldLink RX2 22 "LightBursts$Track" "ends" "[I") (List.mem_of_getElem? (i := 2) rfl)) (fun _ h9 => h9) rfl dX2_room_16 ?_
      refine lv_iload hx hb dX2_room_19 (lv_at hl 5 rfl) ?_
      refine va_iald hx hb hK hP 3 0 rfl rfl (vin48 h0 c_1 hsz) dX2_room_21 ?_
      refine lv_iload_n hx hb dX2_room_22 rfl (lv_at hl 1 rfl) ?_
      refine lv_icmp_le (tgt := 48) hx hb dX2_room_23 (by decide) (fun c_2 => ?_) (fun c_2 => ?_)
      · refine lv_iinc (v := (v5 + 1)) (lv' := [(5, .int (v5 + 1)), (0, .ref aT), (1, .int x1), (2, .int x2), (3, .int x3), (4, .int v4)]) hx hb dX2_room_48 hl (k := 5) rfl rfl (by decide) rfl (fun ls hl => ?_)
        refine lv_goto (tgt := 6) hx hb dX2_room_51 (by decide) ?_
        rw [g_X2_room_L6, if_neg c_1, if_pos c_2] at hG
        exact ih6 v4 (v5 + 1) _ _ _ (by exact up_ge h0 c_1) (by exact ms_up c_1 hm6) hG hP hD hS (lv_sub hl [1, 2, 3, 4, 5, 0] rfl)
      · refine lv_iload hx hb dX2_room_26 (lv_at hl 4 rfl) ?_
        refine lv_iload_n hx hb dX2_room_28 rfl (lv_at hl 3 rfl) ?_
        refine lv_if_eq (tgt := 42) hx hb dX2_room_29 (by decide) (fun c_3 => ?_) (fun c_3 => ?_)
        · refine lv_iload_n hx hb dX2_room_42 rfl (lv_at hl 1 rfl) ?_
          refine va_mmin hx hb (hml.trans hl.1.symm) hown (hts (.methodLink RX2 39 Lib.Math.min.name) (List.mem_of_getElem? (i := 4) rfl)) (hts (.static Lib.Math.min.name) (List.mem_of_getElem? (i := 5) rfl)) (hts (.initialized "java/lang/Math") (List.mem_of_getElem? (i := 6) rfl)) (hts (.code Lib.Math.min.name Lib.Math.min.code 2 (some .int)) (List.mem_of_getElem? (i := 7) rfl)) (Nat.le_of_ble_eq_true rfl) (Nat.le_of_ble_eq_true rfl) (Nat.zero_le _) (Nat.zero_le _) dX2_room_43 ?_
          refine lv_istore (lv' := [(4, .int (if x1 < v4 then x1 else v4)), (0, .ref aT), (1, .int x1), (2, .int x2), (3, .int x3), (5, .int v5)]) hx hb dX2_room_46 hl (by decide) rfl (fun ls hl => ?_)
          refine lv_iinc (v := (v5 + 1)) (lv' := [(5, .int (v5 + 1)), (4, .int (if x1 < v4 then x1 else v4)), (0, .ref aT), (1, .int x1), (2, .int x2), (3, .int x3)]) hx hb dX2_room_48 hl (k := 5) rfl rfl (by decide) rfl (fun ls hl => ?_)
          refine lv_goto (tgt := 6) hx hb dX2_room_51 (by decide) ?_
          rw [g_X2_room_L6, if_neg c_1, if_neg c_2, if_pos c_3] at hG
          exact ih6 (if x1 < v4 then x1 else v4) (v5 + 1) _ _ _ (by exact up_ge h0 c_1) (by exact ms_up c_1 hm6) hG hP hD hS (lv_sub hl [2, 3, 4, 5, 1, 0] rfl)
        · refine lv_aload_n hx hb dX2_room_32 rfl (lv_at hl 0 rfl) ?_
          refine va_get (D := D) (ci := 2) (v := .ref aG) (C := RX2) (T := TX2) (N := 4) hx hb hts iX2 hown hK hP 0 rfl rfl 2 (by decide) (hts (.fieldLink RX2 19 "LightBursts$Track" "begins" "[I") (List.mem_of_getElem? (i := 3) rfl)) (fun _ h9 => h9) rfl dX2_room_33 ?_
          refine lv_iload hx hb dX2_room_36 (lv_at hl 5 rfl) ?_
          refine va_iald hx hb hK hP 2 0 rfl rfl (vin48 h0 c_1 hsz) dX2_room_38 ?_
          refine lv_goto (tgt := 43) hx hb dX2_room_39 (by decide) ?_
          refine va_mmin hx hb (hml.trans hl.1.symm) hown (hts (.methodLink RX2 39 Lib.Math.min.name) (List.mem_of_getElem? (i := 4) rfl)) (hts (.static Lib.Math.min.name) (List.mem_of_getElem? (i := 5) rfl)) (hts (.initialized "java/lang/Math") (List.mem_of_getElem? (i := 6) rfl)) (hts (.code Lib.Math.min.name Lib.Math.min.code 2 (some .int)) (List.mem_of_getElem? (i := 7) rfl)) (Nat.le_of_ble_eq_true rfl) (Nat.le_of_ble_eq_true rfl) (Nat.zero_le _) (Nat.zero_le _) dX2_room_43 ?_
          refine lv_istore (lv' := [(4, .int (if (gf v5.toNatClampNeg) < v4 then (gf v5.toNatClampNeg) else v4)), (0, .ref aT), (1, .int x1), (2, .int x2), (3, .int x3), (5, .int v5)]) hx hb dX2_room_46 hl (by decide) rfl (fun ls hl => ?_)
          refine lv_iinc (v := (v5 + 1)) (lv' := [(5, .int (v5 + 1)), (4, .int (if (gf v5.toNatClampNeg) < v4 then (gf v5.toNatClampNeg) else v4)), (0, .ref aT), (1, .int x1), (2, .int x2), (3, .int x3)]) hx hb dX2_room_48 hl (k := 5) rfl rfl (by decide) rfl (fun ls hl => ?_)
          refine lv_goto (tgt := 6) hx hb dX2_room_51 (by decide) ?_
          rw [g_X2_room_L6, if_neg c_1, if_neg c_2, if_neg c_3] at hG
          exact ih6 (if (gf v5.toNatClampNeg) < v4 then (gf v5.toNatClampNeg) else v4) (v5 + 1) _ _ _ (by exact up_ge h0 c_1) (by exact ms_up c_1 hm6) hG hP hD hS (lv_sub hl [2, 3, 4, 5, 1, 0] rfl)

def g_X2_isFree (sz : Int32) (gf : (Nat → Int32)) (ef : (Nat → Int32)) (x1 : Int32) (x2 : Int32) (x3 : Int32) : Int32 := (if (g_X2_room sz gf ef x1 x2 x3) = (x2 - x1) then 1 else 0)
set_option maxHeartbeats 4000000 in
set_option maxRecDepth 100000 in
theorem c_X2_isFree (l : Launch) (D : va_G) (cA cZ : ClassId) (aT : Nat) (aU : Nat) (aG : Nat) (aE : Nat) (szz : Nat) (sz : Int32) (bf : (Nat → Int32)) (gf : (Nat → Int32)) (ef : (Nat → Int32)) (x1 : Int32) (x2 : Int32) (x3 : Int32) (hsz : sz ≤ 48) : MetI l yX2_isFree wsX2_isFree 2 46 D (tyA cA cZ) [.ref aT, .int x1, .int x2, .int x3] (TRw cA aT aU aG aE sz bf gf ef) szz (g_X2_isFree sz gf ef x1 x2 x3) (TRw cA aT aU aG aE sz bf gf ef) := by
  refine Met.ofW (cc := cX2_isFree) (maxL := 4) (ret := (some .boolean)) (by decide) rfl ?_
  intro p e s m args below meth c s₁ B hml hv
  obtain ⟨rfl, hsz, hP, hK, hD0, hN⟩ := hv
  have hx := B.exec
  have hb := B.bytes
  have hr := B.returns
  have hts := atoms_spec (ws := wsX2_isFree) B.pre
  have hown : s.vm.findClass RX2 = some m.cls := findClass_of_methodNamed B.named
  have hlocks := B.notSynchronized
  have iX2 : ∀ w ∈ wsX20, w ∈ wsX2_isFree := fun _ h => List.mem_cons_of_mem _ (List.mem_append_right _ h)
  subst hsz
  have hD := hD0.self (sz := s.heap.size)
  generalize hAe : va_A (TRw cA aT aU aG aE sz bf gf ef) s.heap.size = A at hD ⊢
  have hA : ∀ q : Nat, s.heap.size ≤ q → A q := fun q h => by rw [← hAe]; exact Or.inr h
  have hS : va_S A s.heap s.heap [] := va_S.rf
  have hP : va_P D vwCl (TRw cA aT aU aG aE sz bf gf ef) s.heap := hP
  obtain ⟨G, hG⟩ : ∃ G, G = (g_X2_isFree sz gf ef x1 x2 x3) := ⟨_, rfl⟩
  rw [← hG]
  have hl := lv_entry ([.ref aT, .int x1, .int x2, .int x3]) (n := 4) (Nat.le_of_ble_eq_true rfl)
  rw [lg_entry_eq]
  generalize (lg_sl ([.ref aT, .int x1, .int x2, .int x3]) ++ List.replicate (4 - (lg_sl ([.ref aT, .int x1, .int x2, .int x3])).length) Slot.unset).toArray = ls at hl ⊢
  have hl : lv_has ls 4 [(0, .ref aT), (1, .int x1), (2, .int x2), (3, .int x3)] := hl
  refine lv_aload_n hx hb dX2_isFree_0 rfl (lv_at hl 0 rfl) ?_
  refine lv_iload_n hx hb dX2_isFree_1 rfl (lv_at hl 1 rfl) ?_
  refine lv_iload_n hx hb dX2_isFree_2 rfl (lv_at hl 2 rfl) ?_
  refine lv_iload_n hx hb dX2_isFree_3 rfl (lv_at hl 3 rfl) ?_
  refine kI (wr := ([] : va_W)) (W1 := TRw cA aT aU aG aE sz bf gf ef) (wsN := TRw cA aT aU aG aE sz bf gf ef) (rV (As := [.int x1, .int x2, .int x3]) (rest := []) (W0 := TRw cA aT aU aG aE sz bf gf ef) ⟨hx, hb, hml, hown, hts⟩ (c_X2_room l D cA cZ aT aU aG aE s.heap.size sz bf gf ef x1 x2 x3 (show sz ≤ 48 from by first | assumption | decide | exact bok_of (by assumption) (by assumption) (by assumption))) (cwV 3 hts gX2_isFree_X2_room rfl rfl rfl (by decide +kernel) ⟨Nat.le_of_ble_eq_true rfl, Nat.le_of_ble_eq_true rfl⟩) hP hD hK hN ([0, 1, 2, 3] : List Nat) rfl rfl 2 0 rfl rfl rfl hl.1 rfl (Nat.le_of_ble_eq_true rfl) dX2_isFree_4 ⟨Nat.zero_le _, Nat.zero_le _⟩) hP hD hS hA [0, 1, 2, 3] [] [0, 1, 2, 3] rfl rfl rfl (by decide) rfl rfl (fun H locs hP hD hS => ?_)
  refine lv_iload_n hx hb dX2_isFree_7 rfl (lv_at hl 2 rfl) ?_
  refine lv_iload_n hx hb dX2_isFree_8 rfl (lv_at hl 1 rfl) ?_
  refine lv_isub hx hb dX2_isFree_9 ?_
  refine lv_icmp_ne (tgt := 17) hx hb dX2_isFree_10 (by decide) (fun c_1 => ?_) (fun c_1 => ?_)
  · refine lv_iconst (v := 0) hx hb dX2_isFree_17 (by decide) ?_
    rw [g_X2_isFree, if_neg c_1] at hG
    rw [hG]
    exact W.zret (v := 0) hx hb hr rfl (fun t ht hW => ⟨⟨_, (), rfl, rfl, by rw [ht]; exact hP, va_K.moved hW.alike hK, hD⟩, hS.F ht⟩) hS.2.2 dX2_isFree_18
  · refine lv_iconst (v := 1) hx hb dX2_isFree_13 (by decide) ?_
    refine lv_goto (tgt := 18) hx hb dX2_isFree_14 (by decide) ?_
    rw [g_X2_isFree, if_pos c_1] at hG
    rw [hG]
    exact W.zret (v := 1) hx hb hr rfl (fun t ht hW => ⟨⟨_, (), rfl, rfl, by rw [ht]; exact hP, va_K.moved hW.alike hK, hD⟩, hS.F ht⟩) hS.2.2 dX2_isFree_18

def g_X2_pieceBegin_L15 (sz : Int32) (gf : (Nat → Int32)) (ef : (Nat → Int32)) (x1 : Int32) (x2 : Int32) (x3 : Int32) : Nat → Int32 → Int32 → Int32 → (Int32)
  | 0, _, _, _ => 0
  | n + 1, v4, v5, v6 => (if sz ≤ v6 then v4 else (if (ef v6.toNatClampNeg) ≤ x1 then (if 0 ≤ v5 then (g_X2_pieceBegin_L15 sz gf ef x1 x2 x3 n v4 v5 (v6 + 1)) else (g_X2_pieceBegin_L15 sz gf ef x1 x2 x3 n (ef v6.toNatClampNeg) 0 (v6 + 1))) else (if (g_X2_room sz gf ef (ef v6.toNatClampNeg) x2 x3) ≤ v5 then (g_X2_pieceBegin_L15 sz gf ef x1 x2 x3 n v4 v5 (v6 + 1)) else (g_X2_pieceBegin_L15 sz gf ef x1 x2 x3 n (ef v6.toNatClampNeg) (g_X2_room sz gf ef (ef v6.toNatClampNeg) x2 x3) (v6 + 1)))))
def g_X2_pieceBegin (sz : Int32) (gf : (Nat → Int32)) (ef : (Nat → Int32)) (x1 : Int32) (x2 : Int32) (x3 : Int32) : Int32 := (g_X2_pieceBegin_L15 sz gf ef x1 x2 x3 (((sz).toInt - ((0 : Int32)).toInt).toNat + 1) x1 (g_X2_room sz gf ef x1 x2 x3) 0)
set_option maxHeartbeats 4000000 in
set_option maxRecDepth 100000 in
theorem c_X2_pieceBegin (l : Launch) (D : va_G) (cA cZ : ClassId) (aT : Nat) (aU : Nat) (aG : Nat) (aE : Nat) (szz : Nat) (sz : Int32) (bf : (Nat → Int32)) (gf : (Nat → Int32)) (ef : (Nat → Int32)) (x1 : Int32) (x2 : Int32) (x3 : Int32) (hsz : sz ≤ 48) : MetI l yX2_pieceBegin wsX2_pieceBegin 2 46 D (tyA cA cZ) [.ref aT, .int x1, .int x2, .int x3] (TRw cA aT aU aG aE sz bf gf ef) szz (g_X2_pieceBegin sz gf ef x1 x2 x3) (TRw cA aT aU aG aE sz bf gf ef) := by
  refine Met.ofW (cc := cX2_pieceBegin) (maxL := 8) (ret := (some .int)) (by decide) rfl ?_
  intro p e s m args below meth c s₁ B hml hv
  obtain ⟨rfl, hsz, hP, hK, hD0, hN⟩ := hv
  have hx := B.exec
  have hb := B.bytes
  have hr := B.returns
  have hts := atoms_spec (ws := wsX2_pieceBegin) B.pre
  have hown : s.vm.findClass RX2 = some m.cls := findClass_of_methodNamed B.named
  have hlocks := B.notSynchronized
  have iX2 : ∀ w ∈ wsX20, w ∈ wsX2_pieceBegin := fun _ h => List.mem_cons_of_mem _ (List.mem_append_right _ h)
  subst hsz
  have hD := hD0.self (sz := s.heap.size)
  generalize hAe : va_A (TRw cA aT aU aG aE sz bf gf ef) s.heap.size = A at hD ⊢
  have hA : ∀ q : Nat, s.heap.size ≤ q → A q := fun q h => by rw [← hAe]; exact Or.inr h
  have hS : va_S A s.heap s.heap [] := va_S.rf
  have hP : va_P D vwCl (TRw cA aT aU aG aE sz bf gf ef) s.heap := hP
  obtain ⟨G, hG⟩ : ∃ G, G = (g_X2_pieceBegin sz gf ef x1 x2 x3) := ⟨_, rfl⟩
  rw [← hG]
  have hl := lv_entry ([.ref aT, .int x1, .int x2, .int x3]) (n := 8) (Nat.le_of_ble_eq_true rfl)
  rw [lg_entry_eq]
  generalize (lg_sl ([.ref aT, .int x1, .int x2, .int x3]) ++ List.replicate (8 - (lg_sl ([.ref aT, .int x1, .int x2, .int x3])).length) Slot.unset).toArray = ls at hl ⊢
  have hl : lv_has ls 8 [(0, .ref aT), (1, .int x1), (2, .int x2), (3, .int x3)] := hl
  refine lv_iload_n hx hb dX2_pieceBegin_0 rfl (lv_at hl 1 rfl) ?_
  refine lv_istore (lv' := [(4, .int x1), (0, .ref aT), (1, .int x1), (2, .int x2), (3, .int x3)]) hx hb dX2_pieceBegin_1 hl (by decide) rfl (fun ls hl => ?_)
  refine lv_aload_n hx hb dX2_pieceBegin_3 rfl (lv_at hl 1 rfl) ?_
  refine lv_iload_n hx hb dX2_pieceBegin_4 rfl (lv_at hl 2 rfl) ?_
  refine lv_iload_n hx hb dX2_pieceBegin_5 rfl (lv_at hl 3 rfl) ?_
  refine lv_iload_n hx hb dX2_pieceBegin_6 rfl (lv_at hl 4 rfl) ?_
  refine kI (wr := ([] : va_W)) (W1 := TRw cA aT aU aG aE sz bf gf ef) (wsN := TRw cA aT aU aG aE sz bf gf ef) (rV (As := [.int x1, .int x2, .int x3]) (rest := []) (W0 := TRw cA aT aU aG aE sz bf gf ef) ⟨hx, hb, hml, hown, hts⟩ (c_X2_room l D cA cZ aT aU aG aE s.heap.size sz bf gf ef x1 x2 x3 (show sz ≤ 48 from by first | assumption | decide | exact bok_of (by assumption) (by assumption) (by assumption))) (cwV 3 hts gX2_pieceBegin_X2_room rfl rfl rfl (by decide +kernel) ⟨Nat.le_of_ble_eq_true rfl, Nat.le_of_ble_eq_true rfl⟩) hP hD hK hN ([0, 1, 2, 3] : List Nat) rfl rfl 2 0 rfl rfl rfl hl.1 rfl (Nat.le_of_ble_eq_true rfl) dX2_pieceBegin_7 ⟨Nat.zero_le _, Nat.zero_le _⟩) hP hD hS hA [0, 1, 2, 3] [] [0, 1, 2, 3] rfl rfl rfl (by decide) rfl rfl (fun H locs hP hD hS => ?_)
  refine lv_istore (lv' := [(5, .int (g_X2_room sz gf ef x1 x2 x3)), (4, .int x1), (0, .ref aT), (1, .int x1), (2, .int x2), (3, .int x3)]) hx hb dX2_pieceBegin_10 hl (by decide) rfl (fun ls hl => ?_)
  refine lv_iconst (v := 0) hx hb dX2_pieceBegin_12 (by decide) ?_
  refine lv_istore (lv' := [(6, .int 0), (5, .int (g_X2_room sz gf ef x1 x2 x3)), (4, .int x1), (0, .ref aT), (1, .int x1), (2, .int x2), (3, .int x3)]) hx hb dX2_pieceBegin_13 hl (by decide) rfl (fun ls hl => ?_)
  rw [g_X2_pieceBegin] at hG
  refine (?_ : ∀ (n : Nat) (v4 : Int32) (v5 : Int32) (v6 : Int32) (H : Heap) (locs : List Loc) (ls : Array Slot), (0 ≤ v6) → ((sz).toInt - (v6).toInt).toNat < n → G = g_X2_pieceBegin_L15 sz gf ef x1 x2 x3 n v4 v5 v6 → va_P D vwCl (TRw cA aT aU aG aE sz bf gf ef) H → va_D A (TRw cA aT aU aG aE sz bf gf ef) → va_S A s.heap H locs → lv_has ls 8 [(0, .ref aT), (1, .int x1), (2, .int x2), (3, .int x3), (4, .int v4), (5, .int v5), (6, .int v6)] → W p l e _ s m _ below meth c H locs _ _ _ (F0 m 15 ls [])) (((sz).toInt - ((0 : Int32)).toInt).toNat + 1) x1 (g_X2_room sz gf ef x1 x2 x3) 0 _ _ _ (by decide) (Nat.lt_succ_self _) hG hP hD hS (lv_sub hl [3, 4, 5, 6, 2, 1, 0] rfl)
  clear hG hP hD hS hl
  intro n
  induction n with
  | zero => intros; omega
  | succ n15 ih15 =>
    intro v4 v5 v6 H locs ls h0 hm15 hG hP hD hS hl
    refine lv_iload hx hb dX2_pieceBegin_15 (lv_at hl 6 rfl) ?_
    refine lv_aload_n hx hb dX2_pieceBegin_17 rfl (lv_at hl 0 rfl) ?_
    refine va_get (D := D) (ci := 2) (v := .int sz) (C := RX2) (T := TX2) (N := 4) hx hb hts iX2 hown hK hP 0 rfl rfl 0 (by decide) (hts (.fieldLink RX2 9 "LightBursts$Track" "size" "I") (List.mem_of_getElem? (i := 1) rfl)) (fun _ h9 => h9) rfl dX2_pieceBegin_18 ?_
    refine lv_icmp_ge (tgt := 80) hx hb dX2_pieceBegin_21 (by decide) (fun c_1 => ?_) (fun c_1 => ?_)
    · refine lv_iload hx hb dX2_pieceBegin_80 (lv_at hl 4 rfl) ?_
      rw [g_X2_pieceBegin_L15, if_pos c_1] at hG
      rw [hG]
      exact W.iret (v := v4) hx hb hr (fun t ht hW => ⟨⟨_, (), rfl, rfl, by rw [ht]; exact hP, va_K.moved hW.alike hK, hD⟩, hS.F ht⟩) hS.2.2 dX2_pieceBegin_82
    · refine lv_aload_n hx hb dX2_pieceBegin_24 rfl (lv_at hl 0 rfl) ?_
      refine va_get (D := D) (ci := 2) (v := .ref aE) (C := RX2) (T := TX2) (N := 4) hx hb hts iX2 hown hK hP 0 rfl rfl 3 (by decide) (hts (.fieldLink RX2 22 "LightBursts$Track" "ends" "[I") (List.mem_of_getElem? (i := 2) rfl)) (fun _ h9 => h9) rfl dX2_pieceBegin_25 ?_
      refine lv_iload hx hb dX2_pieceBegin_28 (lv_at hl 6 rfl) ?_
      refine va_iald hx hb hK hP 3 0 rfl rfl (vin48 h0 c_1 hsz) dX2_pieceBegin_30 ?_
      refine lv_iload_n hx hb dX2_pieceBegin_31 rfl (lv_at hl 1 rfl) ?_
      refine lv_icmp_le (tgt := 51) hx hb dX2_pieceBegin_32 (by decide) (fun c_2 => ?_) (fun c_2 => ?_)
      · refine lv_iconst (v := 0) hx hb dX2_pieceBegin_51 (by decide) ?_
        refine lv_istore (lv' := [(7, .int 0), (0, .ref aT), (1, .int x1), (2, .int x2), (3, .int x3), (4, .int v4), (5, .int v5), (6, .int v6)]) hx hb dX2_pieceBegin_52 hl (by decide) rfl (fun ls hl => ?_)
        refine lv_iload hx hb dX2_pieceBegin_54 (lv_at hl 0 rfl) ?_
        refine lv_iload hx hb dX2_pieceBegin_56 (lv_at hl 6 rfl) ?_
        refine lv_icmp_le (tgt := 74) hx hb dX2_pieceBegin_58 (by decide) (fun c_3 => ?_) (fun c_3 => ?_)
        · refine lv_iinc (v := (v6 + 1)) (lv' := [(6, .int (v6 + 1)), (7, .int 0), (0, .ref aT), (1, .int x1), (2, .int x2), (3, .int x3), (4, .int v4), (5, .int v5)]) hx hb dX2_pieceBegin_74 hl (k := 7) rfl rfl (by decide) rfl (fun ls hl => ?_)
          refine lv_goto (tgt := 15) hx hb dX2_pieceBegin_77 (by decide) ?_
          rw [g_X2_pieceBegin_L15, if_neg c_1, if_pos c_2, if_pos c_3] at hG
          exact ih15 v4 v5 (v6 + 1) _ _ _ (by exact up_ge h0 c_1) (by exact ms_up c_1 hm15) hG hP hD hS (lv_sub hl [2, 3, 4, 5, 6, 7, 0] rfl)
        · refine lv_aload_n hx hb dX2_pieceBegin_61 rfl (lv_at hl 1 rfl) ?_
          refine va_get (D := D) (ci := 2) (v := .ref aE) (C := RX2) (T := TX2) (N := 4) hx hb hts iX2 hown hK hP 0 rfl rfl 3 (by decide) (hts (.fieldLink RX2 22 "LightBursts$Track" "ends" "[I") (List.mem_of_getElem? (i := 2) rfl)) (fun _ h9 => h9) rfl dX2_pieceBegin_62 ?_
          refine lv_iload hx hb dX2_pieceBegin_65 (lv_at hl 7 rfl) ?_
          refine va_iald hx hb hK hP 3 0 rfl rfl (vin48 h0 c_1 hsz) dX2_pieceBegin_67 ?_
          refine lv_istore (lv' := [(4, .int (ef v6.toNatClampNeg)), (7, .int 0), (0, .ref aT), (1, .int x1), (2, .int x2), (3, .int x3), (5, .int v5), (6, .int v6)]) hx hb dX2_pieceBegin_68 hl (by decide) rfl (fun ls hl => ?_)
          refine lv_iload hx hb dX2_pieceBegin_70 (lv_at hl 1 rfl) ?_
          refine lv_istore (lv' := [(5, .int 0), (4, .int (ef v6.toNatClampNeg)), (7, .int 0), (0, .ref aT), (1, .int x1), (2, .int x2), (3, .int x3), (6, .int v6)]) hx hb dX2_pieceBegin_72 hl (by decide) rfl (fun ls hl => ?_)
          refine lv_iinc (v := (v6 + 1)) (lv' := [(6, .int (v6 + 1)), (5, .int 0), (4, .int (ef v6.toNatClampNeg)), (7, .int 0), (0, .ref aT), (1, .int x1), (2, .int x2), (3, .int x3)]) hx hb dX2_pieceBegin_74 hl (k := 7) rfl rfl (by decide) rfl (fun ls hl => ?_)
          refine lv_goto (tgt := 15) hx hb dX2_pieceBegin_77 (by decide) ?_
          rw [g_X2_pieceBegin_L15, if_neg c_1, if_pos c_2, if_neg c_3] at hG
          exact ih15 (ef v6.toNatClampNeg) 0 (v6 + 1) _ _ _ (by exact up_ge h0 c_1) (by exact ms_up c_1 hm15) hG hP hD hS (lv_sub hl [4, 5, 6, 7, 2, 1, 0] rfl)
      · refine lv_aload_n hx hb dX2_pieceBegin_35 rfl (lv_at hl 0 rfl) ?_
        refine lv_aload_n hx hb dX2_pieceBegin_36 rfl (lv_at hl 0 rfl) ?_
        refine va_get (D := D) (ci := 2) (v := .ref aE) (C := RX2) (T := TX2) (N := 4) hx hb hts iX2 hown hK hP 0 rfl rfl 3 (by decide) (hts (.fieldLink RX2 22 "LightBursts$Track" "ends" "[I") (List.mem_of_getElem? (i := 2) rfl)) (fun _ h9 => h9) rfl dX2_pieceBegin_37 ?_
        refine lv_iload hx hb dX2_pieceBegin_40 (lv_at hl 6 rfl) ?_
        refine va_iald hx hb hK hP 3 0 rfl rfl (vin48 h0 c_1 hsz) dX2_pieceBegin_42 ?_
        refine lv_iload_n hx hb dX2_pieceBegin_43 rfl (lv_at hl 2 rfl) ?_
        refine lv_iload_n hx hb dX2_pieceBegin_44 rfl (lv_at hl 3 rfl) ?_
        refine kI (wr := ([] : va_W)) (W1 := TRw cA aT aU aG aE sz bf gf ef) (wsN := TRw cA aT aU aG aE sz bf gf ef) (rV (As := [.int (ef v6.toNatClampNeg), .int x2, .int x3]) (rest := []) (W0 := TRw cA aT aU aG aE sz bf gf ef) ⟨hx, hb, hml, hown, hts⟩ (c_X2_room l D cA cZ aT aU aG aE H.size sz bf gf ef (ef v6.toNatClampNeg) x2 x3 (show sz ≤ 48 from by first | assumption | decide | exact bok_of (by assumption) (by assumption) (by assumption))) (cwV 3 hts gX2_pieceBegin_X2_room rfl rfl rfl (by decide +kernel) ⟨Nat.le_of_ble_eq_true rfl, Nat.le_of_ble_eq_true rfl⟩) hP hD hK hN ([0, 1, 2, 3] : List Nat) rfl rfl 2 0 rfl rfl rfl hl.1 rfl (Nat.le_of_ble_eq_true rfl) dX2_pieceBegin_45 ⟨Nat.zero_le _, Nat.zero_le _⟩) hP hD hS hA [0, 1, 2, 3] [] [0, 1, 2, 3] rfl rfl rfl (by decide) rfl rfl (fun H locs hP hD hS => ?_)
        refine lv_goto (tgt := 52) hx hb dX2_pieceBegin_48 (by decide) ?_
        refine lv_istore (lv' := [(7, .int (g_X2_room sz gf ef (ef v6.toNatClampNeg) x2 x3)), (0, .ref aT), (1, .int x1), (2, .int x2), (3, .int x3), (4, .int v4), (5, .int v5), (6, .int v6)]) hx hb dX2_pieceBegin_52 hl (by decide) rfl (fun ls hl => ?_)
        refine lv_iload hx hb dX2_pieceBegin_54 (lv_at hl 0 rfl) ?_
        refine lv_iload hx hb dX2_pieceBegin_56 (lv_at hl 6 rfl) ?_
        refine lv_icmp_le (tgt := 74) hx hb dX2_pieceBegin_58 (by decide) (fun c_4 => ?_) (fun c_4 => ?_)
        · refine lv_iinc (v := (v6 + 1)) (lv' := [(6, .int (v6 + 1)), (7, .int (g_X2_room sz gf ef (ef v6.toNatClampNeg) x2 x3)), (0, .ref aT), (1, .int x1), (2, .int x2), (3, .int x3), (4, .int v4), (5, .int v5)]) hx hb dX2_pieceBegin_74 hl (k := 7) rfl rfl (by decide) rfl (fun ls hl => ?_)
          refine lv_goto (tgt := 15) hx hb dX2_pieceBegin_77 (by decide) ?_
          rw [g_X2_pieceBegin_L15, if_neg c_1, if_neg c_2, if_pos c_4] at hG
          exact ih15 v4 v5 (v6 + 1) _ _ _ (by exact up_ge h0 c_1) (by exact ms_up c_1 hm15) hG hP hD hS (lv_sub hl [2, 3, 4, 5, 6, 7, 0] rfl)
        · refine lv_aload_n hx hb dX2_pieceBegin_61 rfl (lv_at hl 1 rfl) ?_
          refine va_get (D := D) (ci := 2) (v := .ref aE) (C := RX2) (T := TX2) (N := 4) hx hb hts iX2 hown hK hP 0 rfl rfl 3 (by decide) (hts (.fieldLink RX2 22 "LightBursts$Track" "ends" "[I") (List.mem_of_getElem? (i := 2) rfl)) (fun _ h9 => h9) rfl dX2_pieceBegin_62 ?_
          refine lv_iload hx hb dX2_pieceBegin_65 (lv_at hl 7 rfl) ?_
          refine va_iald hx hb hK hP 3 0 rfl rfl (vin48 h0 c_1 hsz) dX2_pieceBegin_67 ?_
          refine lv_istore (lv' := [(4, .int (ef v6.toNatClampNeg)), (7, .int (g_X2_room sz gf ef (ef v6.toNatClampNeg) x2 x3)), (0, .ref aT), (1, .int x1), (2, .int x2), (3, .int x3), (5, .int v5), (6, .int v6)]) hx hb dX2_pieceBegin_68 hl (by decide) rfl (fun ls hl => ?_)
          refine lv_iload hx hb dX2_pieceBegin_70 (lv_at hl 1 rfl) ?_
          refine lv_istore (lv' := [(5, .int (g_X2_room sz gf ef (ef v6.toNatClampNeg) x2 x3)), (4, .int (ef v6.toNatClampNeg)), (7, .int (g_X2_room sz gf ef (ef v6.toNatClampNeg) x2 x3)), (0, .ref aT), (1, .int x1), (2, .int x2), (3, .int x3), (6, .int v6)]) hx hb dX2_pieceBegin_72 hl (by decide) rfl (fun ls hl => ?_)
          refine lv_iinc (v := (v6 + 1)) (lv' := [(6, .int (v6 + 1)), (5, .int (g_X2_room sz gf ef (ef v6.toNatClampNeg) x2 x3)), (4, .int (ef v6.toNatClampNeg)), (7, .int (g_X2_room sz gf ef (ef v6.toNatClampNeg) x2 x3)), (0, .ref aT), (1, .int x1), (2, .int x2), (3, .int x3)]) hx hb dX2_pieceBegin_74 hl (k := 7) rfl rfl (by decide) rfl (fun ls hl => ?_)
          refine lv_goto (tgt := 15) hx hb dX2_pieceBegin_77 (by decide) ?_
          rw [g_X2_pieceBegin_L15, if_neg c_1, if_neg c_2, if_neg c_4] at hG
          exact ih15 (ef v6.toNatClampNeg) (g_X2_room sz gf ef (ef v6.toNatClampNeg) x2 x3) (v6 + 1) _ _ _ (by exact up_ge h0 c_1) (by exact ms_up c_1 hm15) hG hP hD hS (lv_sub hl [4, 5, 6, 7, 2, 1, 0] rfl)

def g_X2_bookedTicks_L5 (sz : Int32) (gf : (Nat → Int32)) (ef : (Nat → Int32)) (x1 : Int32) (x2 : Int32) : Nat → Int32 → Int32 → (Int32)
  | 0, _, _ => 0
  | n + 1, v3, v4 => (if sz ≤ v4 then v3 else (g_X2_bookedTicks_L5 sz gf ef x1 x2 n (v3 + (if 0 < ((if (ef v4.toNatClampNeg) < x2 then (ef v4.toNatClampNeg) else x2) - (if x1 < (gf v4.toNatClampNeg) then (gf v4.toNatClampNeg) else x1)) then ((if (ef v4.toNatClampNeg) < x2 then (ef v4.toNatClampNeg) else x2) - (if x1 < (gf v4.toNatClampNeg) then (gf v4.toNatClampNeg) else x1)) else 0)) (v4 + 1)))
def g_X2_bookedTicks (sz : Int32) (gf : (Nat → Int32)) (ef : (Nat → Int32)) (x1 : Int32) (x2 : Int32) : Int32 := (g_X2_bookedTicks_L5 sz gf ef x1 x2 (((sz).toInt - ((0 : Int32)).toInt).toNat + 1) 0 0)
set_option maxHeartbeats 4000000 in
set_option maxRecDepth 100000 in
theorem c_X2_bookedTicks (l : Launch) (D : va_G) (cA cZ : ClassId) (aT : Nat) (aU : Nat) (aG : Nat) (aE : Nat) (szz : Nat) (sz : Int32) (bf : (Nat → Int32)) (gf : (Nat → Int32)) (ef : (Nat → Int32)) (x1 : Int32) (x2 : Int32) (hsz : sz ≤ 48) : MetI l yX2_bookedTicks wsX2_bookedTicks 1 21 D (tyA cA cZ) [.ref aT, .int x1, .int x2] (TRw cA aT aU aG aE sz bf gf ef) szz (g_X2_bookedTicks sz gf ef x1 x2) (TRw cA aT aU aG aE sz bf gf ef) := by
  refine Met.ofW (cc := cX2_bookedTicks) (maxL := 5) (ret := (some .int)) (by decide) rfl ?_
  intro p e s m args below meth c s₁ B hml hv
  obtain ⟨rfl, hsz, hP, hK, hD0, hN⟩ := hv
  have hx := B.exec
  have hb := B.bytes
  have hr := B.returns
  have hts := atoms_spec (ws := wsX2_bookedTicks) B.pre
  have hown : s.vm.findClass RX2 = some m.cls := findClass_of_methodNamed B.named
  have hlocks := B.notSynchronized
  have iX2 : ∀ w ∈ wsX20, w ∈ wsX2_bookedTicks := fun _ h => List.mem_cons_of_mem _ (List.mem_append_right _ h)
  subst hsz
  have hD := hD0.self (sz := s.heap.size)
  generalize hAe : va_A (TRw cA aT aU aG aE sz bf gf ef) s.heap.size = A at hD ⊢
  have hA : ∀ q : Nat, s.heap.size ≤ q → A q := fun q h => by rw [← hAe]; exact Or.inr h
  have hS : va_S A s.heap s.heap [] := va_S.rf
  have hP : va_P D vwCl (TRw cA aT aU aG aE sz bf gf ef) s.heap := hP
  obtain ⟨G, hG⟩ : ∃ G, G = (g_X2_bookedTicks sz gf ef x1 x2) := ⟨_, rfl⟩
  rw [← hG]
  have hl := lv_entry ([.ref aT, .int x1, .int x2]) (n := 5) (Nat.le_of_ble_eq_true rfl)
  rw [lg_entry_eq]
  generalize (lg_sl ([.ref aT, .int x1, .int x2]) ++ List.replicate (5 - (lg_sl ([.ref aT, .int x1, .int x2])).length) Slot.unset).toArray = ls at hl ⊢
  have hl : lv_has ls 5 [(0, .ref aT), (1, .int x1), (2, .int x2)] := hl
  refine lv_iconst (v := 0) hx hb dX2_bookedTicks_0 (by decide) ?_
  refine lv_istore_n (lv' := [(3, .int 0), (0, .ref aT), (1, .int x1), (2, .int x2)]) hx hb dX2_bookedTicks_1 rfl hl (by decide) rfl (fun ls hl => ?_)
  refine lv_iconst (v := 0) hx hb dX2_bookedTicks_2 (by decide) ?_
  refine lv_istore (lv' := [(4, .int 0), (3, .int 0), (0, .ref aT), (1, .int x1), (2, .int x2)]) hx hb dX2_bookedTicks_3 hl (by decide) rfl (fun ls hl => ?_)
  rw [g_X2_bookedTicks] at hG
  refine (?_ : ∀ (n : Nat) (v3 : Int32) (v4 : Int32) (H : Heap) (locs : List Loc) (ls : Array Slot), (0 ≤ v4) → ((sz).toInt - (v4).toInt).toNat < n → G = g_X2_bookedTicks_L5 sz gf ef x1 x2 n v3 v4 → va_P D vwCl (TRw cA aT aU aG aE sz bf gf ef) H → va_D A (TRw cA aT aU aG aE sz bf gf ef) → va_S A s.heap H locs → lv_has ls 5 [(0, .ref aT), (1, .int x1), (2, .int x2), (3, .int v3), (4, .int v4)] → W p l e _ s m _ below meth c H locs _ _ _ (F0 m 5 ls [])) (((sz).toInt - ((0 : Int32)).toInt).toNat + 1) 0 0 _ _ _ (by decide) (Nat.lt_succ_self _) hG hP hD hS (lv_sub hl [2, 3, 4, 1, 0] rfl)
  clear hG hP hD hS hl
  intro n
  induction n with
  | zero => intros; omega
  | succ n5 ih5 =>
    intro v3 v4 H locs ls h0 hm5 hG hP hD hS hl
    refine lv_iload hx hb dX2_bookedTicks_5 (lv_at hl 4 rfl) ?_
    refine lv_aload_n hx hb dX2_bookedTicks_7 rfl (lv_at hl 0 rfl) ?_
    refine va_get (D := D) (ci := 2) (v := .int sz) (C := RX2) (T := TX2) (N := 4) hx hb hts iX2 hown hK hP 0 rfl rfl 0 (by decide) (hts (.fieldLink RX2 9 "LightBursts$Track" "size" "I") (List.mem_of_getElem? (i := 1) rfl)) (fun _ h9 => h9) rfl dX2_bookedTicks_8 ?_
    refine lv_icmp_ge (tgt := 50) hx hb dX2_bookedTicks_11 (by decide) (fun c_1 => ?_) (fun c_1 => ?_)
    · refine lv_iload_n hx hb dX2_bookedTicks_50 rfl (lv_at hl 3 rfl) ?_
      rw [g_X2_bookedTicks_L5, if_pos c_1] at hG
      rw [hG]
      exact W.iret (v := v3) hx hb hr (fun t ht hW => ⟨⟨_, (), rfl, rfl, by rw [ht]; exact hP, va_K.moved hW.alike hK, hD⟩, hS.F ht⟩) hS.2.2 dX2_bookedTicks_51
    · refine lv_iload_n hx hb dX2_bookedTicks_14 rfl (lv_at hl 3 rfl) ?_
      refine lv_iconst (v := 0) hx hb dX2_bookedTicks_15 (by decide) ?_
      refine lv_iload_n hx hb dX2_bookedTicks_16 rfl (lv_at hl 2 rfl) ?_
      refine lv_aload_n hx hb dX2_bookedTicks_17 rfl (lv_at hl 0 rfl) ?_
      refine va_get (D := D) (ci := 2) (v := .ref aE) (C := RX2) (T := TX2) (N := 4) hx hb hts iX2 hown hK hP 0 rfl rfl 3 (by decide) (hts (.fieldLink RX2 22 "LightBursts$Track" "ends" "[I") (List.mem_of_getElem? (i := 2) rfl)) (fun _ h9 => h9) rfl dX2_bookedTicks_18 ?_
      refine lv_iload hx hb dX2_bookedTicks_21 (lv_at hl 4 rfl) ?_
      refine va_iald hx hb hK hP 3 0 rfl rfl (vin48 h0 c_1 hsz) dX2_bookedTicks_23 ?_
      refine va_mmin hx hb (hml.trans hl.1.symm) hown (hts (.methodLink RX2 39 Lib.Math.min.name) (List.mem_of_getElem? (i := 3) rfl)) (hts (.static Lib.Math.min.name) (List.mem_of_getElem? (i := 4) rfl)) (hts (.initialized "java/lang/Math") (List.mem_of_getElem? (i := 5) rfl)) (hts (.code Lib.Math.min.name Lib.Math.min.code 2 (some .int)) (List.mem_of_getElem? (i := 6) rfl)) (Nat.le_of_ble_eq_true rfl) (Nat.le_of_ble_eq_true rfl) (Nat.zero_le _) (Nat.zero_le _) dX2_bookedTicks_24 ?_
      refine lv_iload_n hx hb dX2_bookedTicks_27 rfl (lv_at hl 1 rfl) ?_
      refine lv_aload_n hx hb dX2_bookedTicks_28 rfl (lv_at hl 0 rfl) ?_
      refine va_get (D := D) (ci := 2) (v := .ref aG) (C := RX2) (T := TX2) (N := 4) hx hb hts iX2 hown hK hP 0 rfl rfl 2 (by decide) (hts (.fieldLink RX2 19 "LightBursts$Track" "begins" "[I") (List.mem_of_getElem? (i := 7) rfl)) (fun _ h9 => h9) rfl dX2_bookedTicks_29 ?_
      refine lv_iload hx hb dX2_bookedTicks_32 (lv_at hl 4 rfl) ?_
      refine va_iald hx hb hK hP 2 0 rfl rfl (vin48 h0 c_1 hsz) dX2_bookedTicks_34 ?_
      refine va_mmax hx hb (hml.trans hl.1.symm) hown (hts (.methodLink RX2 33 Lib.Math.max.name) (List.mem_of_getElem? (i := 8) rfl)) (hts (.static Lib.Math.max.name) (List.mem_of_getElem? (i := 9) rfl)) (hts (.initialized "java/lang/Math") (List.mem_of_getElem? (i := 5) rfl)) (hts (.code Lib.Math.max.name Lib.Math.max.code 2 (some .int)) (List.mem_of_getElem? (i := 10) rfl)) (Nat.le_of_ble_eq_true rfl) (Nat.le_of_ble_eq_true rfl) (Nat.zero_le _) (Nat.zero_le _) dX2_bookedTicks_35 ?_
      refine lv_isub hx hb dX2_bookedTicks_38 ?_
      refine va_mmax hx hb (hml.trans hl.1.symm) hown (hts (.methodLink RX2 33 Lib.Math.max.name) (List.mem_of_getElem? (i := 8) rfl)) (hts (.static Lib.Math.max.name) (List.mem_of_getElem? (i := 9) rfl)) (hts (.initialized "java/lang/Math") (List.mem_of_getElem? (i := 5) rfl)) (hts (.code Lib.Math.max.name Lib.Math.max.code 2 (some .int)) (List.mem_of_getElem? (i := 10) rfl)) (Nat.le_of_ble_eq_true rfl) (Nat.le_of_ble_eq_true rfl) (Nat.zero_le _) (Nat.zero_le _) dX2_bookedTicks_39 ?_
      refine lv_iadd hx hb dX2_bookedTicks_42 ?_
      refine lv_istore_n (lv' := [(3, .int (v3 + (if 0 < ((if (ef v4.toNatClampNeg) < x2 then (ef v4.toNatClampNeg) else x2) - (if x1 < (gf v4.toNatClampNeg) then (gf v4.toNatClampNeg) else x1)) then ((if (ef v4.toNatClampNeg) < x2 then (ef v4.toNatClampNeg) else x2) - (if x1 < (gf v4.toNatClampNeg) then (gf v4.toNatClampNeg) else x1)) else 0))), (0, .ref aT), (1, .int x1), (2, .int x2), (4, .int v4)]) hx hb dX2_bookedTicks_43 rfl hl (by decide) rfl (fun ls hl => ?_)
      refine lv_iinc (v := (v4 + 1)) (lv' := [(4, .int (v4 + 1)), (3, .int (v3 + (if 0 < ((if (ef v4.toNatClampNeg) < x2 then (ef v4.toNatClampNeg) else x2) - (if x1 < (gf v4.toNatClampNeg) then (gf v4.toNatClampNeg) else x1)) then ((if (ef v4.toNatClampNeg) < x2 then (ef v4.toNatClampNeg) else x2) - (if x1 < (gf v4.toNatClampNeg) then (gf v4.toNatClampNeg) else x1)) else 0))), (0, .ref aT), (1, .int x1), (2, .int x2)]) hx hb dX2_bookedTicks_44 hl (k := 4) rfl rfl (by decide) rfl (fun ls hl => ?_)
      refine lv_goto (tgt := 5) hx hb dX2_bookedTicks_47 (by decide) ?_
      rw [g_X2_bookedTicks_L5, if_neg c_1] at hG
      exact ih5 (v3 + (if 0 < ((if (ef v4.toNatClampNeg) < x2 then (ef v4.toNatClampNeg) else x2) - (if x1 < (gf v4.toNatClampNeg) then (gf v4.toNatClampNeg) else x1)) then ((if (ef v4.toNatClampNeg) < x2 then (ef v4.toNatClampNeg) else x2) - (if x1 < (gf v4.toNatClampNeg) then (gf v4.toNatClampNeg) else x1)) else 0)) (v4 + 1) _ _ _ (by exact up_ge h0 c_1) (by exact ms_up c_1 hm5) hG hP hD hS (lv_sub hl [2, 3, 4, 1, 0] rfl)

def g_X2_firstFree_L5 (sz : Int32) (gf : (Nat → Int32)) (ef : (Nat → Int32)) (x2 : Int32) : Nat → Int32 → Int32 → (Int32)
  | 0, _, _ => 0
  | n + 1, v3, v4 => (if sz ≤ v4 then v3 else (if (v3 + x2) ≤ (gf v4.toNatClampNeg) then (g_X2_firstFree_L5 sz gf ef x2 n v3 (v4 + 1)) else (if (ef v4.toNatClampNeg) ≤ v3 then (g_X2_firstFree_L5 sz gf ef x2 n v3 (v4 + 1)) else (g_X2_firstFree_L5 sz gf ef x2 n (ef v4.toNatClampNeg) (v4 + 1)))))
def g_X2_firstFree (sz : Int32) (gf : (Nat → Int32)) (ef : (Nat → Int32)) (x1 : Int32) (x2 : Int32) : Int32 := (g_X2_firstFree_L5 sz gf ef x2 (((sz).toInt - ((0 : Int32)).toInt).toNat + 1) x1 0)
set_option maxHeartbeats 4000000 in
set_option maxRecDepth 100000 in
theorem c_X2_firstFree (l : Launch) (D : va_G) (cA cZ : ClassId) (aT : Nat) (aU : Nat) (aG : Nat) (aE : Nat) (szz : Nat) (sz : Int32) (bf : (Nat → Int32)) (gf : (Nat → Int32)) (ef : (Nat → Int32)) (x1 : Int32) (x2 : Int32) (hsz : sz ≤ 48) : MetI l yX2_firstFree wsX2_firstFree 0 0 D (tyA cA cZ) [.ref aT, .int x1, .int x2] (TRw cA aT aU aG aE sz bf gf ef) szz (g_X2_firstFree sz gf ef x1 x2) (TRw cA aT aU aG aE sz bf gf ef) := by
  refine Met.ofW (cc := cX2_firstFree) (maxL := 5) (ret := (some .int)) (by decide) rfl ?_
  intro p e s m args below meth c s₁ B hml hv
  obtain ⟨rfl, hsz, hP, hK, hD0, hN⟩ := hv
  have hx := B.exec
  have hb := B.bytes
  have hr := B.returns
  have hts := atoms_spec (ws := wsX2_firstFree) B.pre
  have hown : s.vm.findClass RX2 = some m.cls := findClass_of_methodNamed B.named
  have hlocks := B.notSynchronized
  have iX2 : ∀ w ∈ wsX20, w ∈ wsX2_firstFree := fun _ h => List.mem_cons_of_mem _ (List.mem_append_right _ h)
  subst hsz
  have hD := hD0.self (sz := s.heap.size)
  generalize hAe : va_A (TRw cA aT aU aG aE sz bf gf ef) s.heap.size = A at hD ⊢
  have hA : ∀ q : Nat, s.heap.size ≤ q → A q := fun q h => by rw [← hAe]; exact Or.inr h
  have hS : va_S A s.heap s.heap [] := va_S.rf
  have hP : va_P D vwCl (TRw cA aT aU aG aE sz bf gf ef) s.heap := hP
  obtain ⟨G, hG⟩ : ∃ G, G = (g_X2_firstFree sz gf ef x1 x2) := ⟨_, rfl⟩
  rw [← hG]
  have hl := lv_entry ([.ref aT, .int x1, .int x2]) (n := 5) (Nat.le_of_ble_eq_true rfl)
  rw [lg_entry_eq]
  generalize (lg_sl ([.ref aT, .int x1, .int x2]) ++ List.replicate (5 - (lg_sl ([.ref aT, .int x1, .int x2])).length) Slot.unset).toArray = ls at hl ⊢
  have hl : lv_has ls 5 [(0, .ref aT), (1, .int x1), (2, .int x2)] := hl
  refine lv_iload_n hx hb dX2_firstFree_0 rfl (lv_at hl 1 rfl) ?_
  refine lv_istore_n (lv' := [(3, .int x1), (0, .ref aT), (1, .int x1), (2, .int x2)]) hx hb dX2_firstFree_1 rfl hl (by decide) rfl (fun ls hl => ?_)
  refine lv_iconst (v := 0) hx hb dX2_firstFree_2 (by decide) ?_
  refine lv_istore (lv' := [(4, .int 0), (3, .int x1), (0, .ref aT), (1, .int x1), (2, .int x2)]) hx hb dX2_firstFree_3 hl (by decide) rfl (fun ls hl => ?_)
  rw [g_X2_firstFree] at hG
  refine (?_ : ∀ (n : Nat) (v3 : Int32) (v4 : Int32) (H : Heap) (locs : List Loc) (ls : Array Slot), (0 ≤ v4) → ((sz).toInt - (v4).toInt).toNat < n → G = g_X2_firstFree_L5 sz gf ef x2 n v3 v4 → va_P D vwCl (TRw cA aT aU aG aE sz bf gf ef) H → va_D A (TRw cA aT aU aG aE sz bf gf ef) → va_S A s.heap H locs → lv_has ls 5 [(0, .ref aT), (1, .int x1), (2, .int x2), (3, .int v3), (4, .int v4)] → W p l e _ s m _ below meth c H locs _ _ _ (F0 m 5 ls [])) (((sz).toInt - ((0 : Int32)).toInt).toNat + 1) x1 0 _ _ _ (by decide) (Nat.lt_succ_self _) hG hP hD hS (lv_sub hl [2, 3, 4, 1, 0] rfl)
  clear hG hP hD hS hl
  intro n
  induction n with
  | zero => intros; omega
  | succ n5 ih5 =>
    intro v3 v4 H locs ls h0 hm5 hG hP hD hS hl
    refine lv_iload hx hb dX2_firstFree_5 (lv_at hl 4 rfl) ?_
    refine lv_aload_n hx hb dX2_firstFree_7 rfl (lv_at hl 0 rfl) ?_
    refine va_get (D := D) (ci := 2) (v := .int sz) (C := RX2) (T := TX2) (N := 4) hx hb hts iX2 hown hK hP 0 rfl rfl 0 (by decide) (hts (.fieldLink RX2 9 "LightBursts$Track" "size" "I") (List.mem_of_getElem? (i := 1) rfl)) (fun _ h9 => h9) rfl dX2_firstFree_8 ?_
    refine lv_icmp_ge (tgt := 52) hx hb dX2_firstFree_11 (by decide) (fun c_1 => ?_) (fun c_1 => ?_)
    · refine lv_iload_n hx hb dX2_firstFree_52 rfl (lv_at hl 3 rfl) ?_
      rw [g_X2_firstFree_L5, if_pos c_1] at hG
      rw [hG]
      exact W.iret (v := v3) hx hb hr (fun t ht hW => ⟨⟨_, (), rfl, rfl, by rw [ht]; exact hP, va_K.moved hW.alike hK, hD⟩, hS.F ht⟩) hS.2.2 dX2_firstFree_53
    · refine lv_aload_n hx hb dX2_firstFree_14 rfl (lv_at hl 0 rfl) ?_
      refine va_get (D := D) (ci := 2) (v := .ref aG) (C := RX2) (T := TX2) (N := 4) hx hb hts iX2 hown hK hP 0 rfl rfl 2 (by decide) (hts (.fieldLink RX2 19 "LightBursts$Track" "begins" "[I") (List.mem_of_getElem? (i := 2) rfl)) (fun _ h9 => h9) rfl dX2_firstFree_15 ?_
      refine lv_iload hx hb dX2_firstFree_18 (lv_at hl 4 rfl) ?_
      refine va_iald hx hb hK hP 2 0 rfl rfl (vin48 h0 c_1 hsz) dX2_firstFree_20 ?_
      refine lv_iload_n hx hb dX2_firstFree_21 rfl (lv_at hl 3 rfl) ?_
      refine lv_iload_n hx hb dX2_firstFree_22 rfl (lv_at hl 2 rfl) ?_
      refine lv_iadd hx hb dX2_firstFree_23 ?_
      refine lv_icmp_ge (tgt := 46) hx hb dX2_firstFree_24 (by decide) (fun c_2 => ?_) (fun c_2 => ?_)
      · refine lv_iinc (v := (v4 + 1)) (lv' := [(4, .int (v4 + 1)), (0, .ref aT), (1, .int x1), (2, .int x2), (3, .int v3)]) hx hb dX2_firstFree_46 hl (k := 4) rfl rfl (by decide) rfl (fun ls hl => ?_)
        refine lv_goto (tgt := 5) hx hb dX2_firstFree_49 (by decide) ?_
        rw [g_X2_firstFree_L5, if_neg c_1, if_pos c_2] at hG
        exact ih5 v3 (v4 + 1) _ _ _ (by exact up_ge h0 c_1) (by exact ms_up c_1 hm5) hG hP hD hS (lv_sub hl [1, 2, 3, 4, 0] rfl)
      · refine lv_aload_n hx hb dX2_firstFree_27 rfl (lv_at hl 0 rfl) ?_
        refine va_get (D := D) (ci := 2) (v := .ref aE) (C := RX2) (T := TX2) (N := 4) hx hb hts iX2 hown hK hP 0 rfl rfl 3 (by decide) (hts (.fieldLink RX2 22 "LightBursts$Track" "ends" "[I") (List.mem_of_getElem? (i := 3) rfl)) (fun _ h9 => h9) rfl dX2_firstFree_28 ?_
        refine lv_iload hx hb dX2_firstFree_31 (lv_at hl 4 rfl) ?_
        refine va_iald hx hb hK hP 3 0 rfl rfl (vin48 h0 c_1 hsz) dX2_firstFree_33 ?_
        refine lv_iload_n hx hb dX2_firstFree_34 rfl (lv_at hl 3 rfl) ?_
        refine lv_icmp_le (tgt := 46) hx hb dX2_firstFree_35 (by decide) (fun c_3 => ?_) (fun c_3 => ?_)
        · refine lv_iinc (v := (v4 + 1)) (lv' := [(4, .int (v4 + 1)), (0, .ref aT), (1, .int x1), (2, .int x2), (3, .int v3)]) hx hb dX2_firstFree_46 hl (k := 4) rfl rfl (by decide) rfl (fun ls hl => ?_)
          refine lv_goto (tgt := 5) hx hb dX2_firstFree_49 (by decide) ?_
          rw [g_X2_firstFree_L5, if_neg c_1, if_neg c_2, if_pos c_3] at hG
          exact ih5 v3 (v4 + 1) _ _ _ (by exact up_ge h0 c_1) (by exact ms_up c_1 hm5) hG hP hD hS (lv_sub hl [1, 2, 3, 4, 0] rfl)
        · refine lv_aload_n hx hb dX2_firstFree_38 rfl (lv_at hl 0 rfl) ?_
          refine va_get (D := D) (ci := 2) (v := .ref aE) (C := RX2) (T := TX2) (N := 4) hx hb hts iX2 hown hK hP 0 rfl rfl 3 (by decide) (hts (.fieldLink RX2 22 "LightBursts$Track" "ends" "[I") (List.mem_of_getElem? (i := 3) rfl)) (fun _ h9 => h9) rfl dX2_firstFree_39 ?_
          refine lv_iload hx hb dX2_firstFree_42 (lv_at hl 4 rfl) ?_
          refine va_iald hx hb hK hP 3 0 rfl rfl (vin48 h0 c_1 hsz) dX2_firstFree_44 ?_
          refine lv_istore_n (lv' := [(3, .int (ef v4.toNatClampNeg)), (0, .ref aT), (1, .int x1), (2, .int x2), (4, .int v4)]) hx hb dX2_firstFree_45 rfl hl (by decide) rfl (fun ls hl => ?_)
          refine lv_iinc (v := (v4 + 1)) (lv' := [(4, .int (v4 + 1)), (3, .int (ef v4.toNatClampNeg)), (0, .ref aT), (1, .int x1), (2, .int x2)]) hx hb dX2_firstFree_46 hl (k := 4) rfl rfl (by decide) rfl (fun ls hl => ?_)
          refine lv_goto (tgt := 5) hx hb dX2_firstFree_49 (by decide) ?_
          rw [g_X2_firstFree_L5, if_neg c_1, if_neg c_2, if_neg c_3] at hG
          exact ih5 (ef v4.toNatClampNeg) (v4 + 1) _ _ _ (by exact up_ge h0 c_1) (by exact ms_up c_1 hm5) hG hP hD hS (lv_sub hl [2, 3, 4, 1, 0] rfl)

def g_X2_voidBefore (sz : Int32) (ef : (Nat → Int32)) (x1 : Int32) (x2 : Int32) : Int32 := (if (g_X2_has sz (x1 - 1)) = 0 then x2 else (if x2 < (ef (x1 - 1).toNatClampNeg) then (ef (x1 - 1).toNatClampNeg) else x2))
set_option maxHeartbeats 4000000 in
set_option maxRecDepth 100000 in
theorem c_X2_voidBefore (l : Launch) (D : va_G) (cA cZ : ClassId) (aT : Nat) (aU : Nat) (aG : Nat) (aE : Nat) (szz : Nat) (sz : Int32) (bf : (Nat → Int32)) (gf : (Nat → Int32)) (ef : (Nat → Int32)) (x1 : Int32) (x2 : Int32) (hsz : sz ≤ 48) : MetI l yX2_voidBefore wsX2_voidBefore 2 42 D (tyA cA cZ) [.ref aT, .int x1, .int x2] (TRw cA aT aU aG aE sz bf gf ef) szz (g_X2_voidBefore sz ef x1 x2) (TRw cA aT aU aG aE sz bf gf ef) := by
  refine Met.ofW (cc := cX2_voidBefore) (maxL := 3) (ret := (some .int)) (by decide) rfl ?_
  intro p e s m args below meth c s₁ B hml hv
  obtain ⟨rfl, hsz, hP, hK, hD0, hN⟩ := hv
  have hx := B.exec
  have hb := B.bytes
  have hr := B.returns
  have hts := atoms_spec (ws := wsX2_voidBefore) B.pre
  have hown : s.vm.findClass RX2 = some m.cls := findClass_of_methodNamed B.named
  have hlocks := B.notSynchronized
  have iX2 : ∀ w ∈ wsX20, w ∈ wsX2_voidBefore := fun _ h => List.mem_cons_of_mem _ (List.mem_append_right _ h)
  subst hsz
  have hD := hD0.self (sz := s.heap.size)
  generalize hAe : va_A (TRw cA aT aU aG aE sz bf gf ef) s.heap.size = A at hD ⊢
  have hA : ∀ q : Nat, s.heap.size ≤ q → A q := fun q h => by rw [← hAe]; exact Or.inr h
  have hS : va_S A s.heap s.heap [] := va_S.rf
  have hP : va_P D vwCl (TRw cA aT aU aG aE sz bf gf ef) s.heap := hP
  obtain ⟨G, hG⟩ : ∃ G, G = (g_X2_voidBefore sz ef x1 x2) := ⟨_, rfl⟩
  rw [← hG]
  have hl := lv_entry ([.ref aT, .int x1, .int x2]) (n := 3) (Nat.le_of_ble_eq_true rfl)
  rw [lg_entry_eq]
  generalize (lg_sl ([.ref aT, .int x1, .int x2]) ++ List.replicate (3 - (lg_sl ([.ref aT, .int x1, .int x2])).length) Slot.unset).toArray = ls at hl ⊢
  have hl : lv_has ls 3 [(0, .ref aT), (1, .int x1), (2, .int x2)] := hl
  refine lv_aload_n hx hb dX2_voidBefore_0 rfl (lv_at hl 0 rfl) ?_
  refine lv_iload_n hx hb dX2_voidBefore_1 rfl (lv_at hl 1 rfl) ?_
  refine lv_iconst (v := 1) hx hb dX2_voidBefore_2 (by decide) ?_
  refine lv_isub hx hb dX2_voidBefore_3 ?_
  refine kI (wr := ([] : va_W)) (W1 := TRw cA aT aU aG aE sz bf gf ef) (wsN := TRw cA aT aU aG aE sz bf gf ef) (rV (As := [.int (x1 - 1)]) (rest := []) (W0 := TRw cA aT aU aG aE sz bf gf ef) ⟨hx, hb, hml, hown, hts⟩ (c_X2_has l D cA cZ aT aU aG aE s.heap.size sz bf gf ef (x1 - 1)) (cwV 1 hts gX2_voidBefore_X2_has rfl rfl rfl (by decide +kernel) ⟨Nat.le_of_ble_eq_true rfl, Nat.le_of_ble_eq_true rfl⟩) hP hD hK hN ([0, 1, 2, 3] : List Nat) rfl rfl 2 0 rfl rfl rfl hl.1 rfl (Nat.le_of_ble_eq_true rfl) dX2_voidBefore_4 ⟨Nat.zero_le _, Nat.zero_le _⟩) hP hD hS hA [0, 1, 2, 3] [] [0, 1, 2, 3] rfl rfl rfl (by decide) rfl rfl (fun H locs hP hD hS => ?_)
  refine lv_if_eq (tgt := 25) hx hb dX2_voidBefore_7 (by decide) (fun c_1 => ?_) (fun c_1 => ?_)
  · refine lv_iload_n hx hb dX2_voidBefore_25 rfl (lv_at hl 2 rfl) ?_
    rw [g_X2_voidBefore, if_pos c_1] at hG
    rw [hG]
    exact W.iret (v := x2) hx hb hr (fun t ht hW => ⟨⟨_, (), rfl, rfl, by rw [ht]; exact hP, va_K.moved hW.alike hK, hD⟩, hS.F ht⟩) hS.2.2 dX2_voidBefore_26
  · refine lv_iload_n hx hb dX2_voidBefore_10 rfl (lv_at hl 2 rfl) ?_
    refine lv_aload_n hx hb dX2_voidBefore_11 rfl (lv_at hl 0 rfl) ?_
    refine va_get (D := D) (ci := 2) (v := .ref aE) (C := RX2) (T := TX2) (N := 4) hx hb hts iX2 hown hK hP 0 rfl rfl 3 (by decide) (hts (.fieldLink RX2 22 "LightBursts$Track" "ends" "[I") (List.mem_of_getElem? (i := 1) rfl)) (fun _ h9 => h9) rfl dX2_voidBefore_12 ?_
    refine lv_iload_n hx hb dX2_voidBefore_15 rfl (lv_at hl 1 rfl) ?_
    refine lv_iconst (v := 1) hx hb dX2_voidBefore_16 (by decide) ?_
    refine lv_isub hx hb dX2_voidBefore_17 ?_
    refine va_iald hx hb hK hP 3 0 rfl rfl (has_in c_1 hsz) dX2_voidBefore_18 ?_
    refine va_mmax hx hb (hml.trans hl.1.symm) hown (hts (.methodLink RX2 33 Lib.Math.max.name) (List.mem_of_getElem? (i := 2) rfl)) (hts (.static Lib.Math.max.name) (List.mem_of_getElem? (i := 3) rfl)) (hts (.initialized "java/lang/Math") (List.mem_of_getElem? (i := 4) rfl)) (hts (.code Lib.Math.max.name Lib.Math.max.code 2 (some .int)) (List.mem_of_getElem? (i := 5) rfl)) (Nat.le_of_ble_eq_true rfl) (Nat.le_of_ble_eq_true rfl) (Nat.zero_le _) (Nat.zero_le _) dX2_voidBefore_19 ?_
    refine lv_goto (tgt := 26) hx hb dX2_voidBefore_22 (by decide) ?_
    rw [g_X2_voidBefore, if_neg c_1] at hG
    rw [hG]
    exact W.iret (v := (if x2 < (ef (x1 - 1).toNatClampNeg) then (ef (x1 - 1).toNatClampNeg) else x2)) hx hb hr (fun t ht hW => ⟨⟨_, (), rfl, rfl, by rw [ht]; exact hP, va_K.moved hW.alike hK, hD⟩, hS.F ht⟩) hS.2.2 dX2_voidBefore_26

def g_X2_closingOfVoid_L5 (sz : Int32) (gf : (Nat → Int32)) (ef : (Nat → Int32)) (x1 : Int32) (x2 : Int32) : Nat → Int32 → Int32 → (Int32)
  | 0, _, _ => 0
  | n + 1, v3, v4 => (if sz ≤ v4 then (-6) else (if (gf v4.toNatClampNeg) ≤ (g_X2_voidBefore sz ef v4 x2) then (g_X2_closingOfVoid_L5 sz gf ef x1 x2 n v3 (v4 + 1)) else (if v3 = x1 then v4 else (g_X2_closingOfVoid_L5 sz gf ef x1 x2 n (v3 + 1) (v4 + 1)))))
def g_X2_closingOfVoid (sz : Int32) (gf : (Nat → Int32)) (ef : (Nat → Int32)) (x1 : Int32) (x2 : Int32) : Int32 := (g_X2_closingOfVoid_L5 sz gf ef x1 x2 (((sz).toInt - ((0 : Int32)).toInt).toNat + 1) 0 0)
set_option maxHeartbeats 4000000 in
set_option maxRecDepth 100000 in
theorem c_X2_closingOfVoid (l : Launch) (D : va_G) (cA cZ : ClassId) (aT : Nat) (aU : Nat) (aG : Nat) (aE : Nat) (szz : Nat) (sz : Int32) (bf : (Nat → Int32)) (gf : (Nat → Int32)) (ef : (Nat → Int32)) (x1 : Int32) (x2 : Int32) (hsz : sz ≤ 48) : MetI l yX2_closingOfVoid wsX2_closingOfVoid 3 64 D (tyA cA cZ) [.ref aT, .int x1, .int x2] (TRw cA aT aU aG aE sz bf gf ef) szz (g_X2_closingOfVoid sz gf ef x1 x2) (TRw cA aT aU aG aE sz bf gf ef) := by
  refine Met.ofW (cc := cX2_closingOfVoid) (maxL := 5) (ret := (some .int)) (by decide) rfl ?_
  intro p e s m args below meth c s₁ B hml hv
  obtain ⟨rfl, hsz, hP, hK, hD0, hN⟩ := hv
  have hx := B.exec
  have hb := B.bytes
  have hr := B.returns
  have hts := atoms_spec (ws := wsX2_closingOfVoid) B.pre
  have hown : s.vm.findClass RX2 = some m.cls := findClass_of_methodNamed B.named
  have hlocks := B.notSynchronized
  have iX2 : ∀ w ∈ wsX20, w ∈ wsX2_closingOfVoid := fun _ h => List.mem_cons_of_mem _ (List.mem_append_right _ h)
  subst hsz
  have hD := hD0.self (sz := s.heap.size)
  generalize hAe : va_A (TRw cA aT aU aG aE sz bf gf ef) s.heap.size = A at hD ⊢
  have hA : ∀ q : Nat, s.heap.size ≤ q → A q := fun q h => by rw [← hAe]; exact Or.inr h
  have hS : va_S A s.heap s.heap [] := va_S.rf
  have hP : va_P D vwCl (TRw cA aT aU aG aE sz bf gf ef) s.heap := hP
  obtain ⟨G, hG⟩ : ∃ G, G = (g_X2_closingOfVoid sz gf ef x1 x2) := ⟨_, rfl⟩
  rw [← hG]
  have hl := lv_entry ([.ref aT, .int x1, .int x2]) (n := 5) (Nat.le_of_ble_eq_true rfl)
  rw [lg_entry_eq]
  generalize (lg_sl ([.ref aT, .int x1, .int x2]) ++ List.replicate (5 - (lg_sl ([.ref aT, .int x1, .int x2])).length) Slot.unset).toArray = ls at hl ⊢
  have hl : lv_has ls 5 [(0, .ref aT), (1, .int x1), (2, .int x2)] := hl
  refine lv_iconst (v := 0) hx hb dX2_closingOfVoid_0 (by decide) ?_
  refine lv_istore_n (lv' := [(3, .int 0), (0, .ref aT), (1, .int x1), (2, .int x2)]) hx hb dX2_closingOfVoid_1 rfl hl (by decide) rfl (fun ls hl => ?_)
  refine lv_iconst (v := 0) hx hb dX2_closingOfVoid_2 (by decide) ?_
  refine lv_istore (lv' := [(4, .int 0), (3, .int 0), (0, .ref aT), (1, .int x1), (2, .int x2)]) hx hb dX2_closingOfVoid_3 hl (by decide) rfl (fun ls hl => ?_)
  rw [g_X2_closingOfVoid] at hG
  refine (?_ : ∀ (n : Nat) (v3 : Int32) (v4 : Int32) (H : Heap) (locs : List Loc) (ls : Array Slot), (0 ≤ v4) → ((sz).toInt - (v4).toInt).toNat < n → G = g_X2_closingOfVoid_L5 sz gf ef x1 x2 n v3 v4 → va_P D vwCl (TRw cA aT aU aG aE sz bf gf ef) H → va_D A (TRw cA aT aU aG aE sz bf gf ef) → va_S A s.heap H locs → lv_has ls 5 [(0, .ref aT), (1, .int x1), (2, .int x2), (3, .int v3), (4, .int v4)] → W p l e _ s m _ below meth c H locs _ _ _ (F0 m 5 ls [])) (((sz).toInt - ((0 : Int32)).toInt).toNat + 1) 0 0 _ _ _ (by decide) (Nat.lt_succ_self _) hG hP hD hS (lv_sub hl [2, 3, 4, 1, 0] rfl)
  clear hG hP hD hS hl
  intro n
  induction n with
  | zero => intros; omega
  | succ n5 ih5 =>
    intro v3 v4 H locs ls h0 hm5 hG hP hD hS hl
    refine lv_iload hx hb dX2_closingOfVoid_5 (lv_at hl 4 rfl) ?_
    refine lv_aload_n hx hb dX2_closingOfVoid_7 rfl (lv_at hl 0 rfl) ?_
    refine va_get (D := D) (ci := 2) (v := .int sz) (C := RX2) (T := TX2) (N := 4) hx hb hts iX2 hown hK hP 0 rfl rfl 0 (by decide) (hts (.fieldLink RX2 9 "LightBursts$Track" "size" "I") (List.mem_of_getElem? (i := 1) rfl)) (fun _ h9 => h9) rfl dX2_closingOfVoid_8 ?_
    refine lv_icmp_ge (tgt := 48) hx hb dX2_closingOfVoid_11 (by decide) (fun c_1 => ?_) (fun c_1 => ?_)
    · refine lv_bipush (v := (-6)) hx hb dX2_closingOfVoid_48 (by decide) ?_
      rw [g_X2_closingOfVoid_L5, if_pos c_1] at hG
      rw [hG]
      exact W.iret (v := (-6)) hx hb hr (fun t ht hW => ⟨⟨_, (), rfl, rfl, by rw [ht]; exact hP, va_K.moved hW.alike hK, hD⟩, hS.F ht⟩) hS.2.2 dX2_closingOfVoid_50
    · refine lv_aload_n hx hb dX2_closingOfVoid_14 rfl (lv_at hl 0 rfl) ?_
      refine va_get (D := D) (ci := 2) (v := .ref aG) (C := RX2) (T := TX2) (N := 4) hx hb hts iX2 hown hK hP 0 rfl rfl 2 (by decide) (hts (.fieldLink RX2 19 "LightBursts$Track" "begins" "[I") (List.mem_of_getElem? (i := 2) rfl)) (fun _ h9 => h9) rfl dX2_closingOfVoid_15 ?_
      refine lv_iload hx hb dX2_closingOfVoid_18 (lv_at hl 4 rfl) ?_
      refine va_iald hx hb hK hP 2 0 rfl rfl (vin48 h0 c_1 hsz) dX2_closingOfVoid_20 ?_
      refine lv_aload_n hx hb dX2_closingOfVoid_21 rfl (lv_at hl 0 rfl) ?_
      refine lv_iload hx hb dX2_closingOfVoid_22 (lv_at hl 4 rfl) ?_
      refine lv_iload_n hx hb dX2_closingOfVoid_24 rfl (lv_at hl 2 rfl) ?_
      refine kI (wr := ([] : va_W)) (W1 := TRw cA aT aU aG aE sz bf gf ef) (wsN := TRw cA aT aU aG aE sz bf gf ef) (rV (As := [.int v4, .int x2]) (rest := [.int (gf v4.toNatClampNeg)]) (W0 := TRw cA aT aU aG aE sz bf gf ef) ⟨hx, hb, hml, hown, hts⟩ (c_X2_voidBefore l D cA cZ aT aU aG aE H.size sz bf gf ef v4 x2 (show sz ≤ 48 from by first | assumption | decide | exact bok_of (by assumption) (by assumption) (by assumption))) (cwV 2 hts gX2_closingOfVoid_X2_voidBefore rfl rfl rfl (by decide +kernel) ⟨Nat.le_of_ble_eq_true rfl, Nat.le_of_ble_eq_true rfl⟩) hP hD hK hN ([0, 1, 2, 3] : List Nat) rfl rfl 2 0 rfl rfl rfl hl.1 rfl (Nat.le_of_ble_eq_true rfl) dX2_closingOfVoid_25 ⟨Nat.zero_le _, Nat.zero_le _⟩) hP hD hS hA [0, 1, 2, 3] [] [0, 1, 2, 3] rfl rfl rfl (by decide) rfl rfl (fun H locs hP hD hS => ?_)
      refine lv_icmp_le (tgt := 42) hx hb dX2_closingOfVoid_28 (by decide) (fun c_2 => ?_) (fun c_2 => ?_)
      · refine lv_iinc (v := (v4 + 1)) (lv' := [(4, .int (v4 + 1)), (0, .ref aT), (1, .int x1), (2, .int x2), (3, .int v3)]) hx hb dX2_closingOfVoid_42 hl (k := 4) rfl rfl (by decide) rfl (fun ls hl => ?_)
        refine lv_goto (tgt := 5) hx hb dX2_closingOfVoid_45 (by decide) ?_
        rw [g_X2_closingOfVoid_L5, if_neg c_1, if_pos c_2] at hG
        exact ih5 v3 (v4 + 1) _ _ _ (by exact up_ge h0 c_1) (by exact ms_up c_1 hm5) hG hP hD hS (lv_sub hl [1, 2, 3, 4, 0] rfl)
      · refine lv_iload_n hx hb dX2_closingOfVoid_31 rfl (lv_at hl 3 rfl) ?_
        refine lv_iload_n hx hb dX2_closingOfVoid_32 rfl (lv_at hl 1 rfl) ?_
        refine lv_icmp_ne (tgt := 39) hx hb dX2_closingOfVoid_33 (by decide) (fun c_3 => ?_) (fun c_3 => ?_)
        · refine lv_iinc (v := (v3 + 1)) (lv' := [(3, .int (v3 + 1)), (0, .ref aT), (1, .int x1), (2, .int x2), (4, .int v4)]) hx hb dX2_closingOfVoid_39 hl (k := 3) rfl rfl (by decide) rfl (fun ls hl => ?_)
          refine lv_iinc (v := (v4 + 1)) (lv' := [(4, .int (v4 + 1)), (3, .int (v3 + 1)), (0, .ref aT), (1, .int x1), (2, .int x2)]) hx hb dX2_closingOfVoid_42 hl (k := 4) rfl rfl (by decide) rfl (fun ls hl => ?_)
          refine lv_goto (tgt := 5) hx hb dX2_closingOfVoid_45 (by decide) ?_
          rw [g_X2_closingOfVoid_L5, if_neg c_1, if_neg c_2, if_neg c_3] at hG
          exact ih5 (v3 + 1) (v4 + 1) _ _ _ (by exact up_ge h0 c_1) (by exact ms_up c_1 hm5) hG hP hD hS (lv_sub hl [2, 3, 4, 1, 0] rfl)
        · refine lv_iload hx hb dX2_closingOfVoid_36 (lv_at hl 4 rfl) ?_
          rw [g_X2_closingOfVoid_L5, if_neg c_1, if_neg c_2, if_pos c_3] at hG
          rw [hG]
          exact W.iret (v := v4) hx hb hr (fun t ht hW => ⟨⟨_, (), rfl, rfl, by rw [ht]; exact hP, va_K.moved hW.alike hK, hD⟩, hS.F ht⟩) hS.2.2 dX2_closingOfVoid_38

theorem ad_0 {b : Int32} (h : ¬ g_X3_isBelow b 48 = 0) : 0 ≤ b.toInt ∧ b.toInt < 48 := below_iff.mp h
theorem ad_v {v : Int32} (h : 0 ≤ v.toInt ∧ v.toInt < 48) : vp_in v 48 := by rw [vp_in_iff]; omega
theorem ad_p {v : Int32} (h : ¬ v ≤ 0) : (v - 1).toInt = v.toInt - 1 ∧ (v + (-1)).toInt = v.toInt - 1 ∧ 0 < v.toInt := by
  have e0 : (0 : Int32).toInt = 0 := rfl
  have h1 : 0 < v := by rw [Int32.lt_iff_toInt_lt]; exact lt_of_nle h
  refine ⟨i32_p' h1, i32_p h1, ?_⟩
  have := lt_of_nle h
  omega
theorem ad_w {v : Int32} (h : 0 ≤ v.toInt ∧ v.toInt < 48) (c : ¬ v ≤ 0) : vp_in (v - 1) 48 := by
  have e := ad_p c
  rw [vp_in_iff]; omega
theorem ad_s {v : Int32} (h : 0 ≤ v.toInt ∧ v.toInt < 48) (c : ¬ v ≤ 0) : 0 ≤ (v + (-1)).toInt ∧ (v + (-1)).toInt < 48 := by
  have e := ad_p c
  omega
theorem ad_m {v : Int32} {n : Nat} (c : ¬ v ≤ 0) (h : v.toInt.toNat < n + 1) : (v + (-1)).toInt.toNat < n := by
  have e := ad_p c
  omega

def g_X2_add_L19 (sz : Int32) (x1 : Int32) (x2 : Int32) (x3 : Int32) : Nat → Int32 → (Nat → Int32) → (Nat → Int32) → (Nat → Int32) → (Int32 × (Nat → Int32) × (Nat → Int32) × (Nat → Int32))
  | 0, _, _, _, _ => (0, (fun _ => 0), (fun _ => 0), (fun _ => 0))
  | n + 1, v4, w_bf, w_gf, w_ef => (if v4 ≤ 0 then ((sz + 1), (upd w_bf v4.toNatClampNeg x1), (upd w_gf v4.toNatClampNeg x2), (upd w_ef v4.toNatClampNeg (x2 + x3))) else (if (w_gf (v4 - 1).toNatClampNeg) ≤ x2 then ((sz + 1), (upd w_bf v4.toNatClampNeg x1), (upd w_gf v4.toNatClampNeg x2), (upd w_ef v4.toNatClampNeg (x2 + x3))) else (g_X2_add_L19 sz x1 x2 x3 n (v4 + (-1)) (upd w_bf v4.toNatClampNeg (w_bf (v4 - 1).toNatClampNeg)) (upd w_gf v4.toNatClampNeg (w_gf (v4 - 1).toNatClampNeg)) (upd w_ef v4.toNatClampNeg (w_ef (v4 - 1).toNatClampNeg)))))
def g_X2_add (sz : Int32) (bf : (Nat → Int32)) (gf : (Nat → Int32)) (ef : (Nat → Int32)) (x1 : Int32) (x2 : Int32) (x3 : Int32) : Int32 × (Nat → Int32) × (Nat → Int32) × (Nat → Int32) := (if (g_X3_isBelow sz 48) = 0 then (sz, bf, gf, ef) else (g_X2_add_L19 sz x1 x2 x3 ((sz).toInt.toNat + 1) sz bf gf ef))
set_option maxHeartbeats 4000000 in
set_option maxRecDepth 100000 in
theorem c_X2_add (l : Launch) (D : va_G) (cA cZ : ClassId) (aT : Nat) (aU : Nat) (aG : Nat) (aE : Nat) (szz : Nat) (sz : Int32) (bf : (Nat → Int32)) (gf : (Nat → Int32)) (ef : (Nat → Int32)) (x1 : Int32) (x2 : Int32) (x3 : Int32) : MetV l yX2_add wsX2_add 1 21 D (tyA cA cZ) [.ref aT, .int x1, .int x2, .int x3] (TRw cA aT aU aG aE sz bf gf ef) szz (TRw cA aT aU aG aE ((g_X2_add sz bf gf ef x1 x2 x3).1) ((g_X2_add sz bf gf ef x1 x2 x3).2.1) ((g_X2_add sz bf gf ef x1 x2 x3).2.2.1) ((g_X2_add sz bf gf ef x1 x2 x3).2.2.2)) := by
  refine Met.ofW (cc := cX2_add) (maxL := 5) (ret := none) (by decide) rfl ?_
  intro p e s m args below meth c s₁ B hml hv
  obtain ⟨rfl, hsz, hP, hK, hD0, hN⟩ := hv
  have hx := B.exec
  have hb := B.bytes
  have hr := B.returns
  have hts := atoms_spec (ws := wsX2_add) B.pre
  have hown : s.vm.findClass RX2 = some m.cls := findClass_of_methodNamed B.named
  have hlocks := B.notSynchronized
  have iX2 : ∀ w ∈ wsX20, w ∈ wsX2_add := fun _ h => List.mem_cons_of_mem _ (List.mem_append_right _ h)
  subst hsz
  have hD := hD0.self (sz := s.heap.size)
  generalize hAe : va_A (TRw cA aT aU aG aE sz bf gf ef) s.heap.size = A at hD ⊢
  have hA : ∀ q : Nat, s.heap.size ≤ q → A q := fun q h => by rw [← hAe]; exact Or.inr h
  have hS : va_S A s.heap s.heap [] := va_S.rf
  have hP : va_P D vwCl (TRw cA aT aU aG aE sz bf gf ef) s.heap := hP
  obtain ⟨G, hG⟩ : ∃ G, G = (g_X2_add sz bf gf ef x1 x2 x3) := ⟨_, rfl⟩
  rw [← hG]
  have hl := lv_entry ([.ref aT, .int x1, .int x2, .int x3]) (n := 5) (Nat.le_of_ble_eq_true rfl)
  rw [lg_entry_eq]
  generalize (lg_sl ([.ref aT, .int x1, .int x2, .int x3]) ++ List.replicate (5 - (lg_sl ([.ref aT, .int x1, .int x2, .int x3])).length) Slot.unset).toArray = ls at hl ⊢
  have hl : lv_has ls 5 [(0, .ref aT), (1, .int x1), (2, .int x2), (3, .int x3)] := hl
  refine lv_aload_n hx hb dX2_add_0 rfl (lv_at hl 0 rfl) ?_
  refine va_get (D := D) (ci := 2) (v := .int sz) (C := RX2) (T := TX2) (N := 4) hx hb hts iX2 hown hK hP 0 rfl rfl 0 (by decide) (hts (.fieldLink RX2 9 "LightBursts$Track" "size" "I") (List.mem_of_getElem? (i := 1) rfl)) (fun _ h9 => h9) rfl dX2_add_1 ?_
  refine lv_bipush (v := 48) hx hb dX2_add_4 (by decide) ?_
  refine kI (wr := TRw cA aT aU aG aE sz bf gf ef) (W1 := ([] : va_W)) (wsN := TRw cA aT aU aG aE sz bf gf ef) (rSN (As := [.int sz, .int 48]) (rest := []) (W0 := ([] : va_W)) ⟨hx, hb, hml, hown, hts⟩ (c_X3_isBelow l D cA cZ s.heap.size sz 48) ⟨va_cnB 2 hts gX2_add_X3_isBelow_n25 rfl rfl rfl (hN (.methodLinkNest RX2 25 yX3_isBelow RX3) (List.mem_of_getElem? (i := 14) rfl)) (hts (.initialized RX3) (List.mem_of_getElem? (i := 6) rfl)) (by decide +kernel) ⟨Nat.le_of_ble_eq_true rfl, Nat.le_of_ble_eq_true rfl⟩, (hts (.static yX3_isBelow) (List.mem_of_getElem? (i := 5) rfl)), trivial⟩ hP hD hK hN ([] : List Nat) rfl rfl rfl hl.1 rfl (Nat.le_of_ble_eq_true rfl) dX2_add_6 ⟨Nat.zero_le _, Nat.zero_le _⟩) hP hD hS hA [] [0, 1, 2, 3] [0, 1, 2, 3] rfl rfl rfl (by decide) rfl rfl (fun H locs hP hD hS => ?_)
  refine lv_if_ne (tgt := 13) hx hb dX2_add_9 (by decide) (fun c_1 => ?_) (fun c_1 => ?_)
  · refine lv_aload_n hx hb dX2_add_13 rfl (lv_at hl 0 rfl) ?_
    refine va_get (D := D) (ci := 2) (v := .int sz) (C := RX2) (T := TX2) (N := 4) hx hb hts iX2 hown hK hP 0 rfl rfl 0 (by decide) (hts (.fieldLink RX2 9 "LightBursts$Track" "size" "I") (List.mem_of_getElem? (i := 1) rfl)) (fun _ h9 => h9) rfl dX2_add_14 ?_
    refine lv_istore (lv' := [(4, .int sz), (0, .ref aT), (1, .int x1), (2, .int x2), (3, .int x3)]) hx hb dX2_add_17 hl (by decide) rfl (fun ls hl => ?_)
    rw [g_X2_add, if_neg c_1] at hG
    refine (?_ : ∀ (n : Nat) (v4 : Int32) (w_bf : (Nat → Int32)) (w_gf : (Nat → Int32)) (w_ef : (Nat → Int32)) (H : Heap) (locs : List Loc) (ls : Array Slot), (0 ≤ (v4).toInt ∧ (v4).toInt < 48) → (v4).toInt.toNat < n → G = g_X2_add_L19 sz x1 x2 x3 n v4 w_bf w_gf w_ef → va_P D vwCl (TRw cA aT aU aG aE sz w_bf w_gf w_ef) H → va_D A (TRw cA aT aU aG aE sz w_bf w_gf w_ef) → va_S A s.heap H locs → lv_has ls 5 [(0, .ref aT), (1, .int x1), (2, .int x2), (3, .int x3), (4, .int v4)] → W p l e _ s m _ below meth c H locs _ _ _ (F0 m 19 ls [])) ((sz).toInt.toNat + 1) sz bf gf ef _ _ _ (by exact ad_0 (by assumption)) (Nat.lt_succ_self _) hG hP hD hS (lv_sub hl [1, 2, 3, 4, 0] rfl)
    clear hG hP hD hS hl
    intro n
    induction n with
    | zero => intros; omega
    | succ n19 ih19 =>
      intro v4 w_bf w_gf w_ef H locs ls hv hm19 hG hP hD hS hl
      refine lv_iload hx hb dX2_add_19 (lv_at hl 4 rfl) ?_
      refine lv_if_le (tgt := 91) hx hb dX2_add_21 (by decide) (fun c_2 => ?_) (fun c_2 => ?_)
      · refine lv_aload_n hx hb dX2_add_91 rfl (lv_at hl 0 rfl) ?_
        refine va_get (D := D) (ci := 2) (v := .ref aU) (C := RX2) (T := TX2) (N := 4) hx hb hts iX2 hown hK hP 0 rfl rfl 1 (by decide) (hts (.fieldLink RX2 15 "LightBursts$Track" "bursts" "[I") (List.mem_of_getElem? (i := 3) rfl)) (fun _ h9 => h9) rfl dX2_add_92 ?_
        refine lv_iload hx hb dX2_add_95 (lv_at hl 4 rfl) ?_
        refine lv_iload_n hx hb dX2_add_97 rfl (lv_at hl 1 rfl) ?_
        refine va_iast hx hb hK hP hD hS 1 0 rfl rfl (ad_v hv) dX2_add_98 (fun H locs hP hD hS => ?_)
        have hP : va_P D vwCl (TRw cA aT aU aG aE sz (upd w_bf v4.toNatClampNeg x1) w_gf w_ef) H := hP
        have hD : va_D A (TRw cA aT aU aG aE sz (upd w_bf v4.toNatClampNeg x1) w_gf w_ef) := hD
        refine lv_aload_n hx hb dX2_add_99 rfl (lv_at hl 0 rfl) ?_
        refine va_get (D := D) (ci := 2) (v := .ref aG) (C := RX2) (T := TX2) (N := 4) hx hb hts iX2 hown hK hP 0 rfl rfl 2 (by decide) (hts (.fieldLink RX2 19 "LightBursts$Track" "begins" "[I") (List.mem_of_getElem? (i := 2) rfl)) (fun _ h9 => h9) rfl dX2_add_100 ?_
        refine lv_iload hx hb dX2_add_103 (lv_at hl 4 rfl) ?_
        refine lv_iload_n hx hb dX2_add_105 rfl (lv_at hl 2 rfl) ?_
        refine va_iast hx hb hK hP hD hS 2 0 rfl rfl (ad_v hv) dX2_add_106 (fun H locs hP hD hS => ?_)
        have hP : va_P D vwCl (TRw cA aT aU aG aE sz (upd w_bf v4.toNatClampNeg x1) (upd w_gf v4.toNatClampNeg x2) w_ef) H := hP
        have hD : va_D A (TRw cA aT aU aG aE sz (upd w_bf v4.toNatClampNeg x1) (upd w_gf v4.toNatClampNeg x2) w_ef) := hD
        refine lv_aload_n hx hb dX2_add_107 rfl (lv_at hl 0 rfl) ?_
        refine va_get (D := D) (ci := 2) (v := .ref aE) (C := RX2) (T := TX2) (N := 4) hx hb hts iX2 hown hK hP 0 rfl rfl 3 (by decide) (hts (.fieldLink RX2 22 "LightBursts$Track" "ends" "[I") (List.mem_of_getElem? (i := 4) rfl)) (fun _ h9 => h9) rfl dX2_add_108 ?_
        refine lv_iload hx hb dX2_add_111 (lv_at hl 4 rfl) ?_
        refine lv_iload_n hx hb dX2_add_113 rfl (lv_at hl 2 rfl) ?_
        refine lv_iload_n hx hb dX2_add_114 rfl (lv_at hl 3 rfl) ?_
        refine lv_iadd hx hb dX2_add_115 ?_
        refine va_iast hx hb hK hP hD hS 3 0 rfl rfl (ad_v hv) dX2_add_116 (fun H locs hP hD hS => ?_)
        have hP : va_P D vwCl (TRw cA aT aU aG aE sz (upd w_bf v4.toNatClampNeg x1) (upd w_gf v4.toNatClampNeg x2) (upd w_ef v4.toNatClampNeg (x2 + x3))) H := hP
        have hD : va_D A (TRw cA aT aU aG aE sz (upd w_bf v4.toNatClampNeg x1) (upd w_gf v4.toNatClampNeg x2) (upd w_ef v4.toNatClampNeg (x2 + x3))) := hD
        refine lv_aload_n hx hb dX2_add_117 rfl (lv_at hl 0 rfl) ?_
        refine lv_dup hx hb dX2_add_118 rfl ?_
        refine va_get (D := D) (ci := 2) (v := .int sz) (C := RX2) (T := TX2) (N := 4) hx hb hts iX2 hown hK hP 0 rfl rfl 0 (by decide) (hts (.fieldLink RX2 9 "LightBursts$Track" "size" "I") (List.mem_of_getElem? (i := 1) rfl)) (fun _ h9 => h9) rfl dX2_add_119 ?_
        refine lv_iconst (v := 1) hx hb dX2_add_122 (by decide) ?_
        refine lv_iadd hx hb dX2_add_123 ?_
        refine va_put (D := D) (ci := 2) (v := .int (sz + 1)) (ty := .int) (C := RX2) (T := TX2) (N := 4) hx hb hts iX2 tyX2 tyX2_ok nmX2 hown hK hP hD hS 0 rfl rfl 0 (by decide) (hts (.fieldLink RX2 9 "LightBursts$Track" "size" "I") (List.mem_of_getElem? (i := 1) rfl)) (fun _ h9 => h9) rfl (tyX2_ok 0 (by decide)) rfl rfl (Nat.le_of_ble_eq_true rfl) dX2_add_124 (fun H locs hP hD hS => ?_)
        have hP : va_P D vwCl (TRw cA aT aU aG aE (sz + 1) (upd w_bf v4.toNatClampNeg x1) (upd w_gf v4.toNatClampNeg x2) (upd w_ef v4.toNatClampNeg (x2 + x3))) H := hP
        have hD : va_D A (TRw cA aT aU aG aE (sz + 1) (upd w_bf v4.toNatClampNeg x1) (upd w_gf v4.toNatClampNeg x2) (upd w_ef v4.toNatClampNeg (x2 + x3))) := hD
        rw [g_X2_add_L19, if_pos c_2] at hG
        rw [hG]
        exact W.vret hx hb hr (fun t ht hW => ⟨⟨(), rfl, trivial, by rw [ht]; exact hP, va_K.moved hW.alike hK, hD⟩, hS.F ht⟩) hS.2.2 dX2_add_127
      · refine lv_aload_n hx hb dX2_add_24 rfl (lv_at hl 0 rfl) ?_
        refine va_get (D := D) (ci := 2) (v := .ref aG) (C := RX2) (T := TX2) (N := 4) hx hb hts iX2 hown hK hP 0 rfl rfl 2 (by decide) (hts (.fieldLink RX2 19 "LightBursts$Track" "begins" "[I") (List.mem_of_getElem? (i := 2) rfl)) (fun _ h9 => h9) rfl dX2_add_25 ?_
        refine lv_iload hx hb dX2_add_28 (lv_at hl 4 rfl) ?_
        refine lv_iconst (v := 1) hx hb dX2_add_30 (by decide) ?_
        refine lv_isub hx hb dX2_add_31 ?_
        refine va_iald hx hb hK hP 2 0 rfl rfl (ad_w hv c_2) dX2_add_32 ?_
        refine lv_iload_n hx hb dX2_add_33 rfl (lv_at hl 2 rfl) ?_
        refine lv_icmp_le (tgt := 91) hx hb dX2_add_34 (by decide) (fun c_3 => ?_) (fun c_3 => ?_)
        · refine lv_aload_n hx hb dX2_add_91 rfl (lv_at hl 0 rfl) ?_
          refine va_get (D := D) (ci := 2) (v := .ref aU) (C := RX2) (T := TX2) (N := 4) hx hb hts iX2 hown hK hP 0 rfl rfl 1 (by decide) (hts (.fieldLink RX2 15 "LightBursts$Track" "bursts" "[I") (List.mem_of_getElem? (i := 3) rfl)) (fun _ h9 => h9) rfl dX2_add_92 ?_
          refine lv_iload hx hb dX2_add_95 (lv_at hl 4 rfl) ?_
          refine lv_iload_n hx hb dX2_add_97 rfl (lv_at hl 1 rfl) ?_
          refine va_iast hx hb hK hP hD hS 1 0 rfl rfl (ad_v hv) dX2_add_98 (fun H locs hP hD hS => ?_)
          have hP : va_P D vwCl (TRw cA aT aU aG aE sz (upd w_bf v4.toNatClampNeg x1) w_gf w_ef) H := hP
          have hD : va_D A (TRw cA aT aU aG aE sz (upd w_bf v4.toNatClampNeg x1) w_gf w_ef) := hD
          refine lv_aload_n hx hb dX2_add_99 rfl (lv_at hl 0 rfl) ?_
          refine va_get (D := D) (ci := 2) (v := .ref aG) (C := RX2) (T := TX2) (N := 4) hx hb hts iX2 hown hK hP 0 rfl rfl 2 (by decide) (hts (.fieldLink RX2 19 "LightBursts$Track" "begins" "[I") (List.mem_of_getElem? (i := 2) rfl)) (fun _ h9 => h9) rfl dX2_add_100 ?_
          refine lv_iload hx hb dX2_add_103 (lv_at hl 4 rfl) ?_
          refine lv_iload_n hx hb dX2_add_105 rfl (lv_at hl 2 rfl) ?_
          refine va_iast hx hb hK hP hD hS 2 0 rfl rfl (ad_v hv) dX2_add_106 (fun H locs hP hD hS => ?_)
          have hP : va_P D vwCl (TRw cA aT aU aG aE sz (upd w_bf v4.toNatClampNeg x1) (upd w_gf v4.toNatClampNeg x2) w_ef) H := hP
          have hD : va_D A (TRw cA aT aU aG aE sz (upd w_bf v4.toNatClampNeg x1) (upd w_gf v4.toNatClampNeg x2) w_ef) := hD
          refine lv_aload_n hx hb dX2_add_107 rfl (lv_at hl 0 rfl) ?_
          refine va_get (D := D) (ci := 2) (v := .ref aE) (C := RX2) (T := TX2) (N := 4) hx hb hts iX2 hown hK hP 0 rfl rfl 3 (by decide) (hts (.fieldLink RX2 22 "LightBursts$Track" "ends" "[I") (List.mem_of_getElem? (i := 4) rfl)) (fun _ h9 => h9) rfl dX2_add_108 ?_
          refine lv_iload hx hb dX2_add_111 (lv_at hl 4 rfl) ?_
          refine lv_iload_n hx hb dX2_add_113 rfl (lv_at hl 2 rfl) ?_
          refine lv_iload_n hx hb dX2_add_114 rfl (lv_at hl 3 rfl) ?_
          refine lv_iadd hx hb dX2_add_115 ?_
          refine va_iast hx hb hK hP hD hS 3 0 rfl rfl (ad_v hv) dX2_add_116 (fun H locs hP hD hS => ?_)
          have hP : va_P D vwCl (TRw cA aT aU aG aE sz (upd w_bf v4.toNatClampNeg x1) (upd w_gf v4.toNatClampNeg x2) (upd w_ef v4.toNatClampNeg (x2 + x3))) H := hP
          have hD : va_D A (TRw cA aT aU aG aE sz (upd w_bf v4.toNatClampNeg x1) (upd w_gf v4.toNatClampNeg x2) (upd w_ef v4.toNatClampNeg (x2 + x3))) := hD
          refine lv_aload_n hx hb dX2_add_117 rfl (lv_at hl 0 rfl) ?_
          refine lv_dup hx hb dX2_add_118 rfl ?_
          refine va_get (D := D) (ci := 2) (v := .int sz) (C := RX2) (T := TX2) (N := 4) hx hb hts iX2 hown hK hP 0 rfl rfl 0 (by decide) (hts (.fieldLink RX2 9 "LightBursts$Track" "size" "I") (List.mem_of_getElem? (i := 1) rfl)) (fun _ h9 => h9) rfl dX2_add_119 ?_
          refine lv_iconst (v := 1) hx hb dX2_add_122 (by decide) ?_
          refine lv_iadd hx hb dX2_add_123 ?_
          refine va_put (D := D) (ci := 2) (v := .int (sz + 1)) (ty := .int) (C := RX2) (T := TX2) (N := 4) hx hb hts iX2 tyX2 tyX2_ok nmX2 hown hK hP hD hS 0 rfl rfl 0 (by decide) (hts (.fieldLink RX2 9 "LightBursts$Track" "size" "I") (List.mem_of_getElem? (i := 1) rfl)) (fun _ h9 => h9) rfl (tyX2_ok 0 (by decide)) rfl rfl (Nat.le_of_ble_eq_true rfl) dX2_add_124 (fun H locs hP hD hS => ?_)
          have hP : va_P D vwCl (TRw cA aT aU aG aE (sz + 1) (upd w_bf v4.toNatClampNeg x1) (upd w_gf v4.toNatClampNeg x2) (upd w_ef v4.toNatClampNeg (x2 + x3))) H := hP
          have hD : va_D A (TRw cA aT aU aG aE (sz + 1) (upd w_bf v4.toNatClampNeg x1) (upd w_gf v4.toNatClampNeg x2) (upd w_ef v4.toNatClampNeg (x2 + x3))) := hD
          rw [g_X2_add_L19, if_neg c_2, if_pos c_3] at hG
          rw [hG]
          exact W.vret hx hb hr (fun t ht hW => ⟨⟨(), rfl, trivial, by rw [ht]; exact hP, va_K.moved hW.alike hK, hD⟩, hS.F ht⟩) hS.2.2 dX2_add_127
        · refine lv_aload_n hx hb dX2_add_37 rfl (lv_at hl 0 rfl) ?_
          refine va_get (D := D) (ci := 2) (v := .ref aU) (C := RX2) (T := TX2) (N := 4) hx hb hts iX2 hown hK hP 0 rfl rfl 1 (by decide) (hts (.fieldLink RX2 15 "LightBursts$Track" "bursts" "[I") (List.mem_of_getElem? (i := 3) rfl)) (fun _ h9 => h9) rfl dX2_add_38 ?_
          refine lv_iload hx hb dX2_add_41 (lv_at hl 4 rfl) ?_
          refine lv_aload_n hx hb dX2_add_43 rfl (lv_at hl 0 rfl) ?_
          refine va_get (D := D) (ci := 2) (v := .ref aU) (C := RX2) (T := TX2) (N := 4) hx hb hts iX2 hown hK hP 0 rfl rfl 1 (by decide) (hts (.fieldLink RX2 15 "LightBursts$Track" "bursts" "[I") (List.mem_of_getElem? (i := 3) rfl)) (fun _ h9 => h9) rfl dX2_add_44 ?_
          refine lv_iload hx hb dX2_add_47 (lv_at hl 4 rfl) ?_
          refine lv_iconst (v := 1) hx hb dX2_add_49 (by decide) ?_
          refine lv_isub hx hb dX2_add_50 ?_
          refine va_iald hx hb hK hP 1 0 rfl rfl (ad_w hv c_2) dX2_add_51 ?_
          refine va_iast hx hb hK hP hD hS 1 0 rfl rfl (ad_v hv) dX2_add_52 (fun H locs hP hD hS => ?_)
          have hP : va_P D vwCl (TRw cA aT aU aG aE sz (upd w_bf v4.toNatClampNeg (w_bf (v4 - 1).toNatClampNeg)) w_gf w_ef) H := hP
          have hD : va_D A (TRw cA aT aU aG aE sz (upd w_bf v4.toNatClampNeg (w_bf (v4 - 1).toNatClampNeg)) w_gf w_ef) := hD
          refine lv_aload_n hx hb dX2_add_53 rfl (lv_at hl 0 rfl) ?_
          refine va_get (D := D) (ci := 2) (v := .ref aG) (C := RX2) (T := TX2) (N := 4) hx hb hts iX2 hown hK hP 0 rfl rfl 2 (by decide) (hts (.fieldLink RX2 19 "LightBursts$Track" "begins" "[I") (List.mem_of_getElem? (i := 2) rfl)) (fun _ h9 => h9) rfl dX2_add_54 ?_
          refine lv_iload hx hb dX2_add_57 (lv_at hl 4 rfl) ?_
          refine lv_aload_n hx hb dX2_add_59 rfl (lv_at hl 0 rfl) ?_
          refine va_get (D := D) (ci := 2) (v := .ref aG) (C := RX2) (T := TX2) (N := 4) hx hb hts iX2 hown hK hP 0 rfl rfl 2 (by decide) (hts (.fieldLink RX2 19 "LightBursts$Track" "begins" "[I") (List.mem_of_getElem? (i := 2) rfl)) (fun _ h9 => h9) rfl dX2_add_60 ?_
          refine lv_iload hx hb dX2_add_63 (lv_at hl 4 rfl) ?_
          refine lv_iconst (v := 1) hx hb dX2_add_65 (by decide) ?_
          refine lv_isub hx hb dX2_add_66 ?_
          refine va_iald hx hb hK hP 2 0 rfl rfl (ad_w hv c_2) dX2_add_67 ?_
          refine va_iast hx hb hK hP hD hS 2 0 rfl rfl (ad_v hv) dX2_add_68 (fun H locs hP hD hS => ?_)
          have hP : va_P D vwCl (TRw cA aT aU aG aE sz (upd w_bf v4.toNatClampNeg (w_bf (v4 - 1).toNatClampNeg)) (upd w_gf v4.toNatClampNeg (w_gf (v4 - 1).toNatClampNeg)) w_ef) H := hP
          have hD : va_D A (TRw cA aT aU aG aE sz (upd w_bf v4.toNatClampNeg (w_bf (v4 - 1).toNatClampNeg)) (upd w_gf v4.toNatClampNeg (w_gf (v4 - 1).toNatClampNeg)) w_ef) := hD
          refine lv_aload_n hx hb dX2_add_69 rfl (lv_at hl 0 rfl) ?_
          refine va_get (D := D) (ci := 2) (v := .ref aE) (C := RX2) (T := TX2) (N := 4) hx hb hts iX2 hown hK hP 0 rfl rfl 3 (by decide) (hts (.fieldLink RX2 22 "LightBursts$Track" "ends" "[I") (List.mem_of_getElem? (i := 4) rfl)) (fun _ h9 => h9) rfl dX2_add_70 ?_
          refine lv_iload hx hb dX2_add_73 (lv_at hl 4 rfl) ?_
          refine lv_aload_n hx hb dX2_add_75 rfl (lv_at hl 0 rfl) ?_
          refine va_get (D := D) (ci := 2) (v := .ref aE) (C := RX2) (T := TX2) (N := 4) hx hb hts iX2 hown hK hP 0 rfl rfl 3 (by decide) (hts (.fieldLink RX2 22 "LightBursts$Track" "ends" "[I") (List.mem_of_getElem? (i := 4) rfl)) (fun _ h9 => h9) rfl dX2_add_76 ?_
          refine lv_iload hx hb dX2_add_79 (lv_at hl 4 rfl) ?_
          refine lv_iconst (v := 1) hx hb dX2_add_81 (by decide) ?_
          refine lv_isub hx hb dX2_add_82 ?_
          refine va_iald hx hb hK hP 3 0 rfl rfl (ad_w hv c_2) dX2_add_83 ?_
          refine va_iast hx hb hK hP hD hS 3 0 rfl rfl (ad_v hv) dX2_add_84 (fun H locs hP hD hS => ?_)
          have hP : va_P D vwCl (TRw cA aT aU aG aE sz (upd w_bf v4.toNatClampNeg (w_bf (v4 - 1).toNatClampNeg)) (upd w_gf v4.toNatClampNeg (w_gf (v4 - 1).toNatClampNeg)) (upd w_ef v4.toNatClampNeg (w_ef (v4 - 1).toNatClampNeg))) H := hP
          have hD : va_D A (TRw cA aT aU aG aE sz (upd w_bf v4.toNatClampNeg (w_bf (v4 - 1).toNatClampNeg)) (upd w_gf v4.toNatClampNeg (w_gf (v4 - 1).toNatClampNeg)) (upd w_ef v4.toNatClampNeg (w_ef (v4 - 1).toNatClampNeg))) := hD
          refine lv_iinc (v := (v4 + (-1))) (lv' := [(4, .int (v4 + (-1))), (0, .ref aT), (1, .int x1), (2, .int x2), (3, .int x3)]) hx hb dX2_add_85 hl (k := 4) rfl rfl (by decide) rfl (fun ls hl => ?_)
          refine lv_goto (tgt := 19) hx hb dX2_add_88 (by decide) ?_
          rw [g_X2_add_L19, if_neg c_2, if_neg c_3] at hG
          exact ih19 (v4 + (-1)) (upd w_bf v4.toNatClampNeg (w_bf (v4 - 1).toNatClampNeg)) (upd w_gf v4.toNatClampNeg (w_gf (v4 - 1).toNatClampNeg)) (upd w_ef v4.toNatClampNeg (w_ef (v4 - 1).toNatClampNeg)) _ _ _ (by exact ad_s hv c_2) (by exact ad_m c_2 hm19) hG hP hD hS (lv_sub hl [1, 2, 3, 4, 0] rfl)
  · rw [g_X2_add, if_pos c_1] at hG
    rw [hG]
    exact W.vret hx hb hr (fun t ht hW => ⟨⟨(), rfl, trivial, by rw [ht]; exact hP, va_K.moved hW.alike hK, hD⟩, hS.F ht⟩) hS.2.2 dX2_add_12

theorem add_L_sz (sz x1 x2 x3 : Int32) : ∀ (n : Nat) (v : Int32) (b g e : Nat → Int32), n = 0 ∨ (g_X2_add_L19 sz x1 x2 x3 n v b g e).1 = sz + 1 ∨ (g_X2_add_L19 sz x1 x2 x3 n v b g e).1 = 0 := by
  intro n
  induction n with
  | zero => intros; exact Or.inl rfl
  | succ n ih =>
    intro v b g e
    refine Or.inr ?_
    rw [g_X2_add_L19]
    split
    · exact Or.inl rfl
    · split
      · exact Or.inl rfl
      · rcases ih (v + (-1)) (upd b v.toNatClampNeg (b (v - 1).toNatClampNeg)) (upd g v.toNatClampNeg (g (v - 1).toNatClampNeg)) (upd e v.toNatClampNeg (e (v - 1).toNatClampNeg)) with h | h | h
        · subst h; exact Or.inr rfl
        · exact Or.inl h
        · exact Or.inr h
theorem add_le {sz : Int32} {b g e : Nat → Int32} {x1 x2 x3 : Int32} (h : sz ≤ 48) : (g_X2_add sz b g e x1 x2 x3).1 ≤ 48 := by
  have e48 : (48 : Int32).toInt = 48 := rfl
  have e1 : (1 : Int32).toInt = 1 := rfl
  unfold g_X2_add
  split
  · exact h
  · rename_i hc
    have h1 := ad_0 hc
    rcases add_L_sz sz x1 x2 x3 (sz.toInt.toNat + 1) sz b g e with h2 | h2 | h2
    · omega
    · rw [h2, Int32.le_iff_toInt_le, i32_add (by omega) (by omega)]
      omega
    · rw [h2]; decide
end
section
def g_X0_ruleNow (rf : (Nat → Int32)) (x1 : Int32) : Int32 := (if (g_X3_isBelow x1 6) = 0 then (-6) else (rf x1.toNatClampNeg))
set_option maxHeartbeats 4000000 in
set_option maxRecDepth 100000 in
theorem c_X0_ruleNow (l : Launch) (D : va_G) (cA cZ : ClassId) (aB : Nat) (aR : Nat) (aL : Nat) (aF : Nat) (szz : Nat) (now : Int32) (told : Int32) (rf : (Nat → Int32)) (lf : (Nat → Int32)) (ff : (Nat → Int32)) (x1 : Int32) : MetI l yX0_ruleNow wsX0_ruleNow 1 21 D (tyA cA cZ) [.ref aB, .int x1] (BKw cA aB aR aL aF now told rf lf ff) szz (g_X0_ruleNow rf x1) (BKw cA aB aR aL aF now told rf lf ff) := by
  refine Met.ofW (cc := cX0_ruleNow) (maxL := 2) (ret := (some .int)) (by decide) rfl ?_
  intro p e s m args below meth c s₁ B hml hv
  obtain ⟨rfl, hsz, hP, hK, hD0, hN⟩ := hv
  have hx := B.exec
  have hb := B.bytes
  have hr := B.returns
  have hts := atoms_spec (ws := wsX0_ruleNow) B.pre
  have hown : s.vm.findClass RX0 = some m.cls := findClass_of_methodNamed B.named
  have hlocks := B.notSynchronized
  have iX0 : ∀ w ∈ wsX00, w ∈ wsX0_ruleNow := fun _ h => List.mem_cons_of_mem _ (List.mem_append_right _ h)
  subst hsz
  have hD := hD0.self (sz := s.heap.size)
  generalize hAe : va_A (BKw cA aB aR aL aF now told rf lf ff) s.heap.size = A at hD ⊢
  have hA : ∀ q : Nat, s.heap.size ≤ q → A q := fun q h => by rw [← hAe]; exact Or.inr h
  have hS : va_S A s.heap s.heap [] := va_S.rf
  have hP : va_P D vwCl (BKw cA aB aR aL aF now told rf lf ff) s.heap := hP
  obtain ⟨G, hG⟩ : ∃ G, G = (g_X0_ruleNow rf x1) := ⟨_, rfl⟩
  rw [← hG]
  have hl := lv_entry ([.ref aB, .int x1]) (n := 2) (Nat.le_of_ble_eq_true rfl)
  rw [lg_entry_eq]
  generalize (lg_sl ([.ref aB, .int x1]) ++ List.replicate (2 - (lg_sl ([.ref aB, .int x1])).length) Slot.unset).toArray = ls at hl ⊢
  have hl : lv_has ls 2 [(0, .ref aB), (1, .int x1)] := hl
  refine lv_iload_n hx hb dX0_ruleNow_0 rfl (lv_at hl 1 rfl) ?_
  refine lv_bipush (v := 6) hx hb dX0_ruleNow_1 (by decide) ?_
  refine kI (wr := BKw cA aB aR aL aF now told rf lf ff) (W1 := ([] : va_W)) (wsN := BKw cA aB aR aL aF now told rf lf ff) (rSN (As := [.int x1, .int 6]) (rest := []) (W0 := ([] : va_W)) ⟨hx, hb, hml, hown, hts⟩ (c_X3_isBelow l D cA cZ s.heap.size x1 6) ⟨va_cnB 2 hts gX0_ruleNow_X3_isBelow_n42 rfl rfl rfl (hN (.methodLinkNest RX0 42 yX3_isBelow RX3) (List.mem_of_getElem? (i := 12) rfl)) (hts (.initialized RX3) (List.mem_of_getElem? (i := 3) rfl)) (by decide +kernel) ⟨Nat.le_of_ble_eq_true rfl, Nat.le_of_ble_eq_true rfl⟩, (hts (.static yX3_isBelow) (List.mem_of_getElem? (i := 2) rfl)), trivial⟩ hP hD hK hN ([] : List Nat) rfl rfl rfl hl.1 rfl (Nat.le_of_ble_eq_true rfl) dX0_ruleNow_3 ⟨Nat.zero_le _, Nat.zero_le _⟩) hP hD hS hA [] [0, 1, 2, 3] [0, 1, 2, 3] rfl rfl rfl (by decide) rfl rfl (fun H locs hP hD hS => ?_)
  refine lv_if_eq (tgt := 18) hx hb dX0_ruleNow_6 (by decide) (fun c_1 => ?_) (fun c_1 => ?_)
  · refine lv_bipush (v := (-6)) hx hb dX0_ruleNow_18 (by decide) ?_
    rw [g_X0_ruleNow, if_pos c_1] at hG
    rw [hG]
    exact W.iret (v := (-6)) hx hb hr (fun t ht hW => ⟨⟨_, (), rfl, rfl, by rw [ht]; exact hP, va_K.moved hW.alike hK, hD⟩, hS.F ht⟩) hS.2.2 dX0_ruleNow_20
  · refine lv_aload_n hx hb dX0_ruleNow_9 rfl (lv_at hl 0 rfl) ?_
    refine va_get (D := D) (ci := 0) (v := .ref aR) (C := RX0) (T := TX0) (N := 5) hx hb hts iX0 hown hK hP 0 rfl rfl 2 (by decide) (hts (.fieldLink RX0 27 "LightBursts$Book" "rules" "[I") (List.mem_of_getElem? (i := 1) rfl)) (fun _ h9 => h9) rfl dX0_ruleNow_10 ?_
    refine lv_iload_n hx hb dX0_ruleNow_13 rfl (lv_at hl 1 rfl) ?_
    refine va_iald hx hb hK hP 1 0 rfl rfl (below_in c_1 rfl) dX0_ruleNow_14 ?_
    refine lv_goto (tgt := 20) hx hb dX0_ruleNow_15 (by decide) ?_
    rw [g_X0_ruleNow, if_neg c_1] at hG
    rw [hG]
    exact W.iret (v := (rf x1.toNatClampNeg)) hx hb hr (fun t ht hW => ⟨⟨_, (), rfl, rfl, by rw [ht]; exact hP, va_K.moved hW.alike hK, hD⟩, hS.F ht⟩) hS.2.2 dX0_ruleNow_20

def g_X0_lengthNow (lf : (Nat → Int32)) (x1 : Int32) : Int32 := (if (g_X3_isBelow x1 3) = 0 then (-6) else (lf x1.toNatClampNeg))
set_option maxHeartbeats 4000000 in
set_option maxRecDepth 100000 in
theorem c_X0_lengthNow (l : Launch) (D : va_G) (cA cZ : ClassId) (aB : Nat) (aR : Nat) (aL : Nat) (aF : Nat) (szz : Nat) (now : Int32) (told : Int32) (rf : (Nat → Int32)) (lf : (Nat → Int32)) (ff : (Nat → Int32)) (x1 : Int32) : MetI l yX0_lengthNow wsX0_lengthNow 1 21 D (tyA cA cZ) [.ref aB, .int x1] (BKw cA aB aR aL aF now told rf lf ff) szz (g_X0_lengthNow lf x1) (BKw cA aB aR aL aF now told rf lf ff) := by
  refine Met.ofW (cc := cX0_lengthNow) (maxL := 2) (ret := (some .int)) (by decide) rfl ?_
  intro p e s m args below meth c s₁ B hml hv
  obtain ⟨rfl, hsz, hP, hK, hD0, hN⟩ := hv
  have hx := B.exec
  have hb := B.bytes
  have hr := B.returns
  have hts := atoms_spec (ws := wsX0_lengthNow) B.pre
  have hown : s.vm.findClass RX0 = some m.cls := findClass_of_methodNamed B.named
  have hlocks := B.notSynchronized
  have iX0 : ∀ w ∈ wsX00, w ∈ wsX0_lengthNow := fun _ h => List.mem_cons_of_mem _ (List.mem_append_right _ h)
  subst hsz
  have hD := hD0.self (sz := s.heap.size)
  generalize hAe : va_A (BKw cA aB aR aL aF now told rf lf ff) s.heap.size = A at hD ⊢
  have hA : ∀ q : Nat, s.heap.size ≤ q → A q := fun q h => by rw [← hAe]; exact Or.inr h
  have hS : va_S A s.heap s.heap [] := va_S.rf
  have hP : va_P D vwCl (BKw cA aB aR aL aF now told rf lf ff) s.heap := hP
  obtain ⟨G, hG⟩ : ∃ G, G = (g_X0_lengthNow lf x1) := ⟨_, rfl⟩
  rw [← hG]
  have hl := lv_entry ([.ref aB, .int x1]) (n := 2) (Nat.le_of_ble_eq_true rfl)
  rw [lg_entry_eq]
  generalize (lg_sl ([.ref aB, .int x1]) ++ List.replicate (2 - (lg_sl ([.ref aB, .int x1])).length) Slot.unset).toArray = ls at hl ⊢
  have hl : lv_has ls 2 [(0, .ref aB), (1, .int x1)] := hl
  refine lv_iload_n hx hb dX0_lengthNow_0 rfl (lv_at hl 1 rfl) ?_
  refine lv_iconst (v := 3) hx hb dX0_lengthNow_1 (by decide) ?_
  refine kI (wr := BKw cA aB aR aL aF now told rf lf ff) (W1 := ([] : va_W)) (wsN := BKw cA aB aR aL aF now told rf lf ff) (rSN (As := [.int x1, .int 3]) (rest := []) (W0 := ([] : va_W)) ⟨hx, hb, hml, hown, hts⟩ (c_X3_isBelow l D cA cZ s.heap.size x1 3) ⟨va_cnB 2 hts gX0_lengthNow_X3_isBelow_n42 rfl rfl rfl (hN (.methodLinkNest RX0 42 yX3_isBelow RX3) (List.mem_of_getElem? (i := 12) rfl)) (hts (.initialized RX3) (List.mem_of_getElem? (i := 3) rfl)) (by decide +kernel) ⟨Nat.le_of_ble_eq_true rfl, Nat.le_of_ble_eq_true rfl⟩, (hts (.static yX3_isBelow) (List.mem_of_getElem? (i := 2) rfl)), trivial⟩ hP hD hK hN ([] : List Nat) rfl rfl rfl hl.1 rfl (Nat.le_of_ble_eq_true rfl) dX0_lengthNow_2 ⟨Nat.zero_le _, Nat.zero_le _⟩) hP hD hS hA [] [0, 1, 2, 3] [0, 1, 2, 3] rfl rfl rfl (by decide) rfl rfl (fun H locs hP hD hS => ?_)
  refine lv_if_eq (tgt := 17) hx hb dX0_lengthNow_5 (by decide) (fun c_1 => ?_) (fun c_1 => ?_)
  · refine lv_bipush (v := (-6)) hx hb dX0_lengthNow_17 (by decide) ?_
    rw [g_X0_lengthNow, if_pos c_1] at hG
    rw [hG]
    exact W.iret (v := (-6)) hx hb hr (fun t ht hW => ⟨⟨_, (), rfl, rfl, by rw [ht]; exact hP, va_K.moved hW.alike hK, hD⟩, hS.F ht⟩) hS.2.2 dX0_lengthNow_19
  · refine lv_aload_n hx hb dX0_lengthNow_8 rfl (lv_at hl 0 rfl) ?_
    refine va_get (D := D) (ci := 0) (v := .ref aL) (C := RX0) (T := TX0) (N := 5) hx hb hts iX0 hown hK hP 0 rfl rfl 3 (by decide) (hts (.fieldLink RX0 30 "LightBursts$Book" "lengths" "[I") (List.mem_of_getElem? (i := 1) rfl)) (fun _ h9 => h9) rfl dX0_lengthNow_9 ?_
    refine lv_iload_n hx hb dX0_lengthNow_12 rfl (lv_at hl 1 rfl) ?_
    refine va_iald hx hb hK hP 2 0 rfl rfl (below_in c_1 rfl) dX0_lengthNow_13 ?_
    refine lv_goto (tgt := 19) hx hb dX0_lengthNow_14 (by decide) ?_
    rw [g_X0_lengthNow, if_neg c_1] at hG
    rw [hG]
    exact W.iret (v := (lf x1.toNatClampNeg)) hx hb hr (fun t ht hW => ⟨⟨_, (), rfl, rfl, by rw [ht]; exact hP, va_K.moved hW.alike hK, hD⟩, hS.F ht⟩) hS.2.2 dX0_lengthNow_19

def g_X0_comingTick (now : Int32) (rf : (Nat → Int32)) (x1 : Int32) (x2 : Int32) : Int32 := ((now + ((g_X0_ruleNow rf 1) * x2)) + ((g_X0_ruleNow rf 2) * x1))
set_option maxHeartbeats 4000000 in
set_option maxRecDepth 100000 in
theorem c_X0_comingTick (l : Launch) (D : va_G) (cA cZ : ClassId) (aB : Nat) (aR : Nat) (aL : Nat) (aF : Nat) (szz : Nat) (now : Int32) (told : Int32) (rf : (Nat → Int32)) (lf : (Nat → Int32)) (ff : (Nat → Int32)) (x1 : Int32) (x2 : Int32) : MetI l yX0_comingTick wsX0_comingTick 2 42 D (tyA cA cZ) [.ref aB, .int x1, .int x2] (BKw cA aB aR aL aF now told rf lf ff) szz (g_X0_comingTick now rf x1 x2) (BKw cA aB aR aL aF now told rf lf ff) := by
  refine Met.ofW (cc := cX0_comingTick) (maxL := 3) (ret := (some .int)) (by decide) rfl ?_
  intro p e s m args below meth c s₁ B hml hv
  obtain ⟨rfl, hsz, hP, hK, hD0, hN⟩ := hv
  have hx := B.exec
  have hb := B.bytes
  have hr := B.returns
  have hts := atoms_spec (ws := wsX0_comingTick) B.pre
  have hown : s.vm.findClass RX0 = some m.cls := findClass_of_methodNamed B.named
  have hlocks := B.notSynchronized
  have iX0 : ∀ w ∈ wsX00, w ∈ wsX0_comingTick := fun _ h => List.mem_cons_of_mem _ (List.mem_append_right _ h)
  subst hsz
  have hD := hD0.self (sz := s.heap.size)
  generalize hAe : va_A (BKw cA aB aR aL aF now told rf lf ff) s.heap.size = A at hD ⊢
  have hA : ∀ q : Nat, s.heap.size ≤ q → A q := fun q h => by rw [← hAe]; exact Or.inr h
  have hS : va_S A s.heap s.heap [] := va_S.rf
  have hP : va_P D vwCl (BKw cA aB aR aL aF now told rf lf ff) s.heap := hP
  obtain ⟨G, hG⟩ : ∃ G, G = (g_X0_comingTick now rf x1 x2) := ⟨_, rfl⟩
  rw [← hG]
  have hl := lv_entry ([.ref aB, .int x1, .int x2]) (n := 3) (Nat.le_of_ble_eq_true rfl)
  rw [lg_entry_eq]
  generalize (lg_sl ([.ref aB, .int x1, .int x2]) ++ List.replicate (3 - (lg_sl ([.ref aB, .int x1, .int x2])).length) Slot.unset).toArray = ls at hl ⊢
  have hl : lv_has ls 3 [(0, .ref aB), (1, .int x1), (2, .int x2)] := hl
  refine lv_aload_n hx hb dX0_comingTick_0 rfl (lv_at hl 0 rfl) ?_
  refine va_get (D := D) (ci := 0) (v := .int now) (C := RX0) (T := TX0) (N := 5) hx hb hts iX0 hown hK hP 0 rfl rfl 0 (by decide) (hts (.fieldLink RX0 9 "LightBursts$Book" "now" "I") (List.mem_of_getElem? (i := 1) rfl)) (fun _ h9 => h9) rfl dX0_comingTick_1 ?_
  refine lv_aload_n hx hb dX0_comingTick_4 rfl (lv_at hl 0 rfl) ?_
  refine lv_iconst (v := 1) hx hb dX0_comingTick_5 (by decide) ?_
  refine kI (wr := ([] : va_W)) (W1 := BKw cA aB aR aL aF now told rf lf ff) (wsN := BKw cA aB aR aL aF now told rf lf ff) (rV (As := [.int 1]) (rest := [.int now]) (W0 := BKw cA aB aR aL aF now told rf lf ff) ⟨hx, hb, hml, hown, hts⟩ (c_X0_ruleNow l D cA cZ aB aR aL aF s.heap.size now told rf lf ff 1) (cwV 1 hts gX0_comingTick_X0_ruleNow rfl rfl rfl (by decide +kernel) ⟨Nat.le_of_ble_eq_true rfl, Nat.le_of_ble_eq_true rfl⟩) hP hD hK hN ([0, 1, 2, 3] : List Nat) rfl rfl 0 0 rfl rfl rfl hl.1 rfl (Nat.le_of_ble_eq_true rfl) dX0_comingTick_6 ⟨Nat.zero_le _, Nat.zero_le _⟩) hP hD hS hA [0, 1, 2, 3] [] [0, 1, 2, 3] rfl rfl rfl (by decide) rfl rfl (fun H locs hP hD hS => ?_)
  refine lv_iload_n hx hb dX0_comingTick_9 rfl (lv_at hl 2 rfl) ?_
  refine lv_imul hx hb dX0_comingTick_10 ?_
  refine lv_iadd hx hb dX0_comingTick_11 ?_
  refine lv_aload_n hx hb dX0_comingTick_12 rfl (lv_at hl 0 rfl) ?_
  refine lv_iconst (v := 2) hx hb dX0_comingTick_13 (by decide) ?_
  refine kI (wr := ([] : va_W)) (W1 := BKw cA aB aR aL aF now told rf lf ff) (wsN := BKw cA aB aR aL aF now told rf lf ff) (rV (As := [.int 2]) (rest := [.int (now + ((g_X0_ruleNow rf 1) * x2))]) (W0 := BKw cA aB aR aL aF now told rf lf ff) ⟨hx, hb, hml, hown, hts⟩ (c_X0_ruleNow l D cA cZ aB aR aL aF H.size now told rf lf ff 2) (cwV 1 hts gX0_comingTick_X0_ruleNow rfl rfl rfl (by decide +kernel) ⟨Nat.le_of_ble_eq_true rfl, Nat.le_of_ble_eq_true rfl⟩) hP hD hK hN ([0, 1, 2, 3] : List Nat) rfl rfl 0 0 rfl rfl rfl hl.1 rfl (Nat.le_of_ble_eq_true rfl) dX0_comingTick_14 ⟨Nat.zero_le _, Nat.zero_le _⟩) hP hD hS hA [0, 1, 2, 3] [] [0, 1, 2, 3] rfl rfl rfl (by decide) rfl rfl (fun H locs hP hD hS => ?_)
  refine lv_iload_n hx hb dX0_comingTick_17 rfl (lv_at hl 1 rfl) ?_
  refine lv_imul hx hb dX0_comingTick_18 ?_
  refine lv_iadd hx hb dX0_comingTick_19 ?_
  rw [g_X0_comingTick] at hG
  rw [hG]
  exact W.iret (v := ((now + ((g_X0_ruleNow rf 1) * x2)) + ((g_X0_ruleNow rf 2) * x1))) hx hb hr (fun t ht hW => ⟨⟨_, (), rfl, rfl, by rw [ht]; exact hP, va_K.moved hW.alike hK, hD⟩, hS.F ht⟩) hS.2.2 dX0_comingTick_20

def g_X0_fact (ff : (Nat → Int32)) (x1 : Int32) (x2 : Int32) : Int32 := (if (g_X3_isBelow ((x1 * 11) + x2) 528) = 0 then (-6) else (ff ((x1 * 11) + x2).toNatClampNeg))
set_option maxHeartbeats 4000000 in
set_option maxRecDepth 100000 in
theorem c_X0_fact (l : Launch) (D : va_G) (cA cZ : ClassId) (aB : Nat) (aR : Nat) (aL : Nat) (aF : Nat) (szz : Nat) (now : Int32) (told : Int32) (rf : (Nat → Int32)) (lf : (Nat → Int32)) (ff : (Nat → Int32)) (x1 : Int32) (x2 : Int32) : MetI l yX0_fact wsX0_fact 1 21 D (tyA cA cZ) [.ref aB, .int x1, .int x2] (BKw cA aB aR aL aF now told rf lf ff) szz (g_X0_fact ff x1 x2) (BKw cA aB aR aL aF now told rf lf ff) := by
  refine Met.ofW (cc := cX0_fact) (maxL := 4) (ret := (some .int)) (by decide) rfl ?_
  intro p e s m args below meth c s₁ B hml hv
  obtain ⟨rfl, hsz, hP, hK, hD0, hN⟩ := hv
  have hx := B.exec
  have hb := B.bytes
  have hr := B.returns
  have hts := atoms_spec (ws := wsX0_fact) B.pre
  have hown : s.vm.findClass RX0 = some m.cls := findClass_of_methodNamed B.named
  have hlocks := B.notSynchronized
  have iX0 : ∀ w ∈ wsX00, w ∈ wsX0_fact := fun _ h => List.mem_cons_of_mem _ (List.mem_append_right _ h)
  subst hsz
  have hD := hD0.self (sz := s.heap.size)
  generalize hAe : va_A (BKw cA aB aR aL aF now told rf lf ff) s.heap.size = A at hD ⊢
  have hA : ∀ q : Nat, s.heap.size ≤ q → A q := fun q h => by rw [← hAe]; exact Or.inr h
  have hS : va_S A s.heap s.heap [] := va_S.rf
  have hP : va_P D vwCl (BKw cA aB aR aL aF now told rf lf ff) s.heap := hP
  obtain ⟨G, hG⟩ : ∃ G, G = (g_X0_fact ff x1 x2) := ⟨_, rfl⟩
  rw [← hG]
  have hl := lv_entry ([.ref aB, .int x1, .int x2]) (n := 4) (Nat.le_of_ble_eq_true rfl)
  rw [lg_entry_eq]
  generalize (lg_sl ([.ref aB, .int x1, .int x2]) ++ List.replicate (4 - (lg_sl ([.ref aB, .int x1, .int x2])).length) Slot.unset).toArray = ls at hl ⊢
  have hl : lv_has ls 4 [(0, .ref aB), (1, .int x1), (2, .int x2)] := hl
  refine lv_iload_n hx hb dX0_fact_0 rfl (lv_at hl 1 rfl) ?_
  refine lv_bipush (v := 11) hx hb dX0_fact_1 (by decide) ?_
  refine lv_imul hx hb dX0_fact_3 ?_
  refine lv_iload_n hx hb dX0_fact_4 rfl (lv_at hl 2 rfl) ?_
  refine lv_iadd hx hb dX0_fact_5 ?_
  refine lv_istore_n (lv' := [(3, .int ((x1 * 11) + x2)), (0, .ref aB), (1, .int x1), (2, .int x2)]) hx hb dX0_fact_6 rfl hl (by decide) rfl (fun ls hl => ?_)
  refine lv_iload_n hx hb dX0_fact_7 rfl (lv_at hl 0 rfl) ?_
  refine lv_sipush (v := 528) hx hb dX0_fact_8 (by decide) ?_
  refine kI (wr := BKw cA aB aR aL aF now told rf lf ff) (W1 := ([] : va_W)) (wsN := BKw cA aB aR aL aF now told rf lf ff) (rSN (As := [.int ((x1 * 11) + x2), .int 528]) (rest := []) (W0 := ([] : va_W)) ⟨hx, hb, hml, hown, hts⟩ (c_X3_isBelow l D cA cZ s.heap.size ((x1 * 11) + x2) 528) ⟨va_cnB 2 hts gX0_fact_X3_isBelow_n42 rfl rfl rfl (hN (.methodLinkNest RX0 42 yX3_isBelow RX3) (List.mem_of_getElem? (i := 12) rfl)) (hts (.initialized RX3) (List.mem_of_getElem? (i := 3) rfl)) (by decide +kernel) ⟨Nat.le_of_ble_eq_true rfl, Nat.le_of_ble_eq_true rfl⟩, (hts (.static yX3_isBelow) (List.mem_of_getElem? (i := 2) rfl)), trivial⟩ hP hD hK hN ([] : List Nat) rfl rfl rfl hl.1 rfl (Nat.le_of_ble_eq_true rfl) dX0_fact_11 ⟨Nat.zero_le _, Nat.zero_le _⟩) hP hD hS hA [] [0, 1, 2, 3] [0, 1, 2, 3] rfl rfl rfl (by decide) rfl rfl (fun H locs hP hD hS => ?_)
  refine lv_if_eq (tgt := 26) hx hb dX0_fact_14 (by decide) (fun c_1 => ?_) (fun c_1 => ?_)
  · refine lv_bipush (v := (-6)) hx hb dX0_fact_26 (by decide) ?_
    rw [g_X0_fact, if_pos c_1] at hG
    rw [hG]
    exact W.iret (v := (-6)) hx hb hr (fun t ht hW => ⟨⟨_, (), rfl, rfl, by rw [ht]; exact hP, va_K.moved hW.alike hK, hD⟩, hS.F ht⟩) hS.2.2 dX0_fact_28
  · refine lv_aload_n hx hb dX0_fact_17 rfl (lv_at hl 1 rfl) ?_
    refine va_get (D := D) (ci := 0) (v := .ref aF) (C := RX0) (T := TX0) (N := 5) hx hb hts iX0 hown hK hP 0 rfl rfl 4 (by decide) (hts (.fieldLink RX0 33 "LightBursts$Book" "facts" "[I") (List.mem_of_getElem? (i := 1) rfl)) (fun _ h9 => h9) rfl dX0_fact_18 ?_
    refine lv_iload_n hx hb dX0_fact_21 rfl (lv_at hl 0 rfl) ?_
    refine va_iald hx hb hK hP 3 0 rfl rfl (below_in c_1 rfl) dX0_fact_22 ?_
    refine lv_goto (tgt := 28) hx hb dX0_fact_23 (by decide) ?_
    rw [g_X0_fact, if_neg c_1] at hG
    rw [hG]
    exact W.iret (v := (ff ((x1 * 11) + x2).toNatClampNeg)) hx hb hr (fun t ht hW => ⟨⟨_, (), rfl, rfl, by rw [ht]; exact hP, va_K.moved hW.alike hK, hD⟩, hS.F ht⟩) hS.2.2 dX0_fact_28

def g_X0_setFact (ff : (Nat → Int32)) (x1 : Int32) (x2 : Int32) (x3 : Int32) : (Nat → Int32) := (if (g_X3_isBelow ((x1 * 11) + x2) 528) = 0 then ff else (upd ff ((x1 * 11) + x2).toNatClampNeg x3))
set_option maxHeartbeats 4000000 in
set_option maxRecDepth 100000 in
theorem c_X0_setFact (l : Launch) (D : va_G) (cA cZ : ClassId) (aB : Nat) (aR : Nat) (aL : Nat) (aF : Nat) (szz : Nat) (now : Int32) (told : Int32) (rf : (Nat → Int32)) (lf : (Nat → Int32)) (ff : (Nat → Int32)) (x1 : Int32) (x2 : Int32) (x3 : Int32) : MetV l yX0_setFact wsX0_setFact 1 21 D (tyA cA cZ) [.ref aB, .int x1, .int x2, .int x3] (BKw cA aB aR aL aF now told rf lf ff) szz (BKw cA aB aR aL aF now told rf lf (g_X0_setFact ff x1 x2 x3)) := by
  refine Met.ofW (cc := cX0_setFact) (maxL := 5) (ret := none) (by decide) rfl ?_
  intro p e s m args below meth c s₁ B hml hv
  obtain ⟨rfl, hsz, hP, hK, hD0, hN⟩ := hv
  have hx := B.exec
  have hb := B.bytes
  have hr := B.returns
  have hts := atoms_spec (ws := wsX0_setFact) B.pre
  have hown : s.vm.findClass RX0 = some m.cls := findClass_of_methodNamed B.named
  have hlocks := B.notSynchronized
  have iX0 : ∀ w ∈ wsX00, w ∈ wsX0_setFact := fun _ h => List.mem_cons_of_mem _ (List.mem_append_right _ h)
  subst hsz
  have hD := hD0.self (sz := s.heap.size)
  generalize hAe : va_A (BKw cA aB aR aL aF now told rf lf ff) s.heap.size = A at hD ⊢
  have hA : ∀ q : Nat, s.heap.size ≤ q → A q := fun q h => by rw [← hAe]; exact Or.inr h
  have hS : va_S A s.heap s.heap [] := va_S.rf
  have hP : va_P D vwCl (BKw cA aB aR aL aF now told rf lf ff) s.heap := hP
  obtain ⟨G, hG⟩ : ∃ G, G = (g_X0_setFact ff x1 x2 x3) := ⟨_, rfl⟩
  rw [← hG]
  have hl := lv_entry ([.ref aB, .int x1, .int x2, .int x3]) (n := 5) (Nat.le_of_ble_eq_true rfl)
  rw [lg_entry_eq]
  generalize (lg_sl ([.ref aB, .int x1, .int x2, .int x3]) ++ List.replicate (5 - (lg_sl ([.ref aB, .int x1, .int x2, .int x3])).length) Slot.unset).toArray = ls at hl ⊢
  have hl : lv_has ls 5 [(0, .ref aB), (1, .int x1), (2, .int x2), (3, .int x3)] := hl
  refine lv_iload_n hx hb dX0_setFact_0 rfl (lv_at hl 1 rfl) ?_
  refine lv_bipush (v := 11) hx hb dX0_setFact_1 (by decide) ?_
  refine lv_imul hx hb dX0_setFact_3 ?_
  refine lv_iload_n hx hb dX0_setFact_4 rfl (lv_at hl 2 rfl) ?_
  refine lv_iadd hx hb dX0_setFact_5 ?_
  refine lv_istore (lv' := [(4, .int ((x1 * 11) + x2)), (0, .ref aB), (1, .int x1), (2, .int x2), (3, .int x3)]) hx hb dX0_setFact_6 hl (by decide) rfl (fun ls hl => ?_)
  refine lv_iload hx hb dX0_setFact_8 (lv_at hl 0 rfl) ?_
  refine lv_sipush (v := 528) hx hb dX0_setFact_10 (by decide) ?_
  refine kI (wr := BKw cA aB aR aL aF now told rf lf ff) (W1 := ([] : va_W)) (wsN := BKw cA aB aR aL aF now told rf lf ff) (rSN (As := [.int ((x1 * 11) + x2), .int 528]) (rest := []) (W0 := ([] : va_W)) ⟨hx, hb, hml, hown, hts⟩ (c_X3_isBelow l D cA cZ s.heap.size ((x1 * 11) + x2) 528) ⟨va_cnB 2 hts gX0_setFact_X3_isBelow_n42 rfl rfl rfl (hN (.methodLinkNest RX0 42 yX3_isBelow RX3) (List.mem_of_getElem? (i := 12) rfl)) (hts (.initialized RX3) (List.mem_of_getElem? (i := 3) rfl)) (by decide +kernel) ⟨Nat.le_of_ble_eq_true rfl, Nat.le_of_ble_eq_true rfl⟩, (hts (.static yX3_isBelow) (List.mem_of_getElem? (i := 2) rfl)), trivial⟩ hP hD hK hN ([] : List Nat) rfl rfl rfl hl.1 rfl (Nat.le_of_ble_eq_true rfl) dX0_setFact_13 ⟨Nat.zero_le _, Nat.zero_le _⟩) hP hD hS hA [] [0, 1, 2, 3] [0, 1, 2, 3] rfl rfl rfl (by decide) rfl rfl (fun H locs hP hD hS => ?_)
  refine lv_if_eq (tgt := 27) hx hb dX0_setFact_16 (by decide) (fun c_1 => ?_) (fun c_1 => ?_)
  · rw [g_X0_setFact, if_pos c_1] at hG
    rw [hG]
    exact W.vret hx hb hr (fun t ht hW => ⟨⟨(), rfl, trivial, by rw [ht]; exact hP, va_K.moved hW.alike hK, hD⟩, hS.F ht⟩) hS.2.2 dX0_setFact_27
  · refine lv_aload_n hx hb dX0_setFact_19 rfl (lv_at hl 1 rfl) ?_
    refine va_get (D := D) (ci := 0) (v := .ref aF) (C := RX0) (T := TX0) (N := 5) hx hb hts iX0 hown hK hP 0 rfl rfl 4 (by decide) (hts (.fieldLink RX0 33 "LightBursts$Book" "facts" "[I") (List.mem_of_getElem? (i := 1) rfl)) (fun _ h9 => h9) rfl dX0_setFact_20 ?_
    refine lv_iload hx hb dX0_setFact_23 (lv_at hl 0 rfl) ?_
    refine lv_iload_n hx hb dX0_setFact_25 rfl (lv_at hl 4 rfl) ?_
    refine va_iast hx hb hK hP hD hS 3 0 rfl rfl (below_in c_1 rfl) dX0_setFact_26 (fun H locs hP hD hS => ?_)
    have hP : va_P D vwCl (BKw cA aB aR aL aF now told rf lf (upd ff ((x1 * 11) + x2).toNatClampNeg x3)) H := hP
    have hD : va_D A (BKw cA aB aR aL aF now told rf lf (upd ff ((x1 * 11) + x2).toNatClampNeg x3)) := hD
    rw [g_X0_setFact, if_neg c_1] at hG
    rw [hG]
    exact W.vret hx hb hr (fun t ht hW => ⟨⟨(), rfl, trivial, by rw [ht]; exact hP, va_K.moved hW.alike hK, hD⟩, hS.F ht⟩) hS.2.2 dX0_setFact_27

def g_X0_takeBack (ff : (Nat → Int32)) (x1 : Int32) : (Nat → Int32) := (g_X0_setFact (g_X0_setFact (g_X0_setFact (g_X0_setFact (g_X0_setFact ff x1 6 4) x1 7 (-6)) x1 8 (-6)) x1 9 0) x1 10 (-6))
set_option maxHeartbeats 4000000 in
set_option maxRecDepth 100000 in
theorem c_X0_takeBack (l : Launch) (D : va_G) (cA cZ : ClassId) (aB : Nat) (aR : Nat) (aL : Nat) (aF : Nat) (szz : Nat) (now : Int32) (told : Int32) (rf : (Nat → Int32)) (lf : (Nat → Int32)) (ff : (Nat → Int32)) (x1 : Int32) : MetV l yX0_takeBack wsX0_takeBack 2 45 D (tyA cA cZ) [.ref aB, .int x1] (BKw cA aB aR aL aF now told rf lf ff) szz (BKw cA aB aR aL aF now told rf lf (g_X0_takeBack ff x1)) := by
  refine Met.ofW (cc := cX0_takeBack) (maxL := 2) (ret := none) (by decide) rfl ?_
  intro p e s m args below meth c s₁ B hml hv
  obtain ⟨rfl, hsz, hP, hK, hD0, hN⟩ := hv
  have hx := B.exec
  have hb := B.bytes
  have hr := B.returns
  have hts := atoms_spec (ws := wsX0_takeBack) B.pre
  have hown : s.vm.findClass RX0 = some m.cls := findClass_of_methodNamed B.named
  have hlocks := B.notSynchronized
  have iX0 : ∀ w ∈ wsX00, w ∈ wsX0_takeBack := fun _ h => List.mem_cons_of_mem _ (List.mem_append_right _ h)
  subst hsz
  have hD := hD0.self (sz := s.heap.size)
  generalize hAe : va_A (BKw cA aB aR aL aF now told rf lf ff) s.heap.size = A at hD ⊢
  have hA : ∀ q : Nat, s.heap.size ≤ q → A q := fun q h => by rw [← hAe]; exact Or.inr h
  have hS : va_S A s.heap s.heap [] := va_S.rf
  have hP : va_P D vwCl (BKw cA aB aR aL aF now told rf lf ff) s.heap := hP
  obtain ⟨G, hG⟩ : ∃ G, G = (g_X0_takeBack ff x1) := ⟨_, rfl⟩
  rw [← hG]
  have hl := lv_entry ([.ref aB, .int x1]) (n := 2) (Nat.le_of_ble_eq_true rfl)
  rw [lg_entry_eq]
  generalize (lg_sl ([.ref aB, .int x1]) ++ List.replicate (2 - (lg_sl ([.ref aB, .int x1])).length) Slot.unset).toArray = ls at hl ⊢
  have hl : lv_has ls 2 [(0, .ref aB), (1, .int x1)] := hl
  refine lv_aload_n hx hb dX0_takeBack_0 rfl (lv_at hl 0 rfl) ?_
  refine lv_iload_n hx hb dX0_takeBack_1 rfl (lv_at hl 1 rfl) ?_
  refine lv_bipush (v := 6) hx hb dX0_takeBack_2 (by decide) ?_
  refine lv_iconst (v := 4) hx hb dX0_takeBack_4 (by decide) ?_
  refine kV (wr := ([] : va_W)) (W1 := BKw cA aB aR aL aF now told rf lf (g_X0_setFact ff x1 6 4)) (wsN := BKw cA aB aR aL aF now told rf lf (g_X0_setFact ff x1 6 4)) (rV (As := [.int x1, .int 6, .int 4]) (rest := []) (W0 := BKw cA aB aR aL aF now told rf lf ff) ⟨hx, hb, hml, hown, hts⟩ (c_X0_setFact l D cA cZ aB aR aL aF s.heap.size now told rf lf ff x1 6 4) (cwV 3 hts gX0_takeBack_X0_setFact rfl rfl rfl (by decide +kernel) ⟨Nat.le_of_ble_eq_true rfl, Nat.le_of_ble_eq_true rfl⟩) hP hD hK hN ([0, 1, 2, 3] : List Nat) rfl rfl 0 0 rfl rfl rfl hl.1 rfl (Nat.le_of_ble_eq_true rfl) dX0_takeBack_5 ⟨Nat.zero_le _, Nat.zero_le _⟩) hP hD hS hA [0, 1, 2, 3] [] [0, 1, 2, 3] rfl rfl rfl (by decide) rfl rfl (fun H locs hP hD hS => ?_)
  refine lv_aload_n hx hb dX0_takeBack_8 rfl (lv_at hl 0 rfl) ?_
  refine lv_iload_n hx hb dX0_takeBack_9 rfl (lv_at hl 1 rfl) ?_
  refine lv_bipush (v := 7) hx hb dX0_takeBack_10 (by decide) ?_
  refine lv_bipush (v := (-6)) hx hb dX0_takeBack_12 (by decide) ?_
  refine kV (wr := ([] : va_W)) (W1 := BKw cA aB aR aL aF now told rf lf (g_X0_setFact (g_X0_setFact ff x1 6 4) x1 7 (-6))) (wsN := BKw cA aB aR aL aF now told rf lf (g_X0_setFact (g_X0_setFact ff x1 6 4) x1 7 (-6))) (rV (As := [.int x1, .int 7, .int (-6)]) (rest := []) (W0 := BKw cA aB aR aL aF now told rf lf (g_X0_setFact ff x1 6 4)) ⟨hx, hb, hml, hown, hts⟩ (c_X0_setFact l D cA cZ aB aR aL aF H.size now told rf lf (g_X0_setFact ff x1 6 4) x1 7 (-6)) (cwV 3 hts gX0_takeBack_X0_setFact rfl rfl rfl (by decide +kernel) ⟨Nat.le_of_ble_eq_true rfl, Nat.le_of_ble_eq_true rfl⟩) hP hD hK hN ([0, 1, 2, 3] : List Nat) rfl rfl 0 0 rfl rfl rfl hl.1 rfl (Nat.le_of_ble_eq_true rfl) dX0_takeBack_14 ⟨Nat.zero_le _, Nat.zero_le _⟩) hP hD hS hA [0, 1, 2, 3] [] [0, 1, 2, 3] rfl rfl rfl (by decide) rfl rfl (fun H locs hP hD hS => ?_)
  refine lv_aload_n hx hb dX0_takeBack_17 rfl (lv_at hl 0 rfl) ?_
  refine lv_iload_n hx hb dX0_takeBack_18 rfl (lv_at hl 1 rfl) ?_
  refine lv_bipush (v := 8) hx hb dX0_takeBack_19 (by decide) ?_
  refine lv_bipush (v := (-6)) hx hb dX0_takeBack_21 (by decide) ?_
  refine kV (wr := ([] : va_W)) (W1 := BKw cA aB aR aL aF now told rf lf (g_X0_setFact (g_X0_setFact (g_X0_setFact ff x1 6 4) x1 7 (-6)) x1 8 (-6))) (wsN := BKw cA aB aR aL aF now told rf lf (g_X0_setFact (g_X0_setFact (g_X0_setFact ff x1 6 4) x1 7 (-6)) x1 8 (-6))) (rV (As := [.int x1, .int 8, .int (-6)]) (rest := []) (W0 := BKw cA aB aR aL aF now told rf lf (g_X0_setFact (g_X0_setFact ff x1 6 4) x1 7 (-6))) ⟨hx, hb, hml, hown, hts⟩ (c_X0_setFact l D cA cZ aB aR aL aF H.size now told rf lf (g_X0_setFact (g_X0_setFact ff x1 6 4) x1 7 (-6)) x1 8 (-6)) (cwV 3 hts gX0_takeBack_X0_setFact rfl rfl rfl (by decide +kernel) ⟨Nat.le_of_ble_eq_true rfl, Nat.le_of_ble_eq_true rfl⟩) hP hD hK hN ([0, 1, 2, 3] : List Nat) rfl rfl 0 0 rfl rfl rfl hl.1 rfl (Nat.le_of_ble_eq_true rfl) dX0_takeBack_23 ⟨Nat.zero_le _, Nat.zero_le _⟩) hP hD hS hA [0, 1, 2, 3] [] [0, 1, 2, 3] rfl rfl rfl (by decide) rfl rfl (fun H locs hP hD hS => ?_)
  refine lv_aload_n hx hb dX0_takeBack_26 rfl (lv_at hl 0 rfl) ?_
  refine lv_iload_n hx hb dX0_takeBack_27 rfl (lv_at hl 1 rfl) ?_
  refine lv_bipush (v := 9) hx hb dX0_takeBack_28 (by decide) ?_
  refine lv_iconst (v := 0) hx hb dX0_takeBack_30 (by decide) ?_
  refine kV (wr := ([] : va_W)) (W1 := BKw cA aB aR aL aF now told rf lf (g_X0_setFact (g_X0_setFact (g_X0_setFact (g_X0_setFact ff x1 6 4) x1 7 (-6)) x1 8 (-6)) x1 9 0)) (wsN := BKw cA aB aR aL aF now told rf lf (g_X0_setFact (g_X0_setFact (g_X0_setFact (g_X0_setFact ff x1 6 4) x1 7 (-6)) x1 8 (-6)) x1 9 0)) (rV (As := [.int x1, .int 9, .int 0]) (rest := []) (W0 := BKw cA aB aR aL aF now told rf lf (g_X0_setFact (g_X0_setFact (g_X0_setFact ff x1 6 4) x1 7 (-6)) x1 8 (-6))) ⟨hx, hb, hml, hown, hts⟩ (c_X0_setFact l D cA cZ aB aR aL aF H.size now told rf lf (g_X0_setFact (g_X0_setFact (g_X0_setFact ff x1 6 4) x1 7 (-6)) x1 8 (-6)) x1 9 0) (cwV 3 hts gX0_takeBack_X0_setFact rfl rfl rfl (by decide +kernel) ⟨Nat.le_of_ble_eq_true rfl, Nat.le_of_ble_eq_true rfl⟩) hP hD hK hN ([0, 1, 2, 3] : List Nat) rfl rfl 0 0 rfl rfl rfl hl.1 rfl (Nat.le_of_ble_eq_true rfl) dX0_takeBack_31 ⟨Nat.zero_le _, Nat.zero_le _⟩) hP hD hS hA [0, 1, 2, 3] [] [0, 1, 2, 3] rfl rfl rfl (by decide) rfl rfl (fun H locs hP hD hS => ?_)
  refine lv_aload_n hx hb dX0_takeBack_34 rfl (lv_at hl 0 rfl) ?_
  refine lv_iload_n hx hb dX0_takeBack_35 rfl (lv_at hl 1 rfl) ?_
  refine lv_bipush (v := 10) hx hb dX0_takeBack_36 (by decide) ?_
  refine lv_bipush (v := (-6)) hx hb dX0_takeBack_38 (by decide) ?_
  refine kV (wr := ([] : va_W)) (W1 := BKw cA aB aR aL aF now told rf lf (g_X0_setFact (g_X0_setFact (g_X0_setFact (g_X0_setFact (g_X0_setFact ff x1 6 4) x1 7 (-6)) x1 8 (-6)) x1 9 0) x1 10 (-6))) (wsN := BKw cA aB aR aL aF now told rf lf (g_X0_setFact (g_X0_setFact (g_X0_setFact (g_X0_setFact (g_X0_setFact ff x1 6 4) x1 7 (-6)) x1 8 (-6)) x1 9 0) x1 10 (-6))) (rV (As := [.int x1, .int 10, .int (-6)]) (rest := []) (W0 := BKw cA aB aR aL aF now told rf lf (g_X0_setFact (g_X0_setFact (g_X0_setFact (g_X0_setFact ff x1 6 4) x1 7 (-6)) x1 8 (-6)) x1 9 0)) ⟨hx, hb, hml, hown, hts⟩ (c_X0_setFact l D cA cZ aB aR aL aF H.size now told rf lf (g_X0_setFact (g_X0_setFact (g_X0_setFact (g_X0_setFact ff x1 6 4) x1 7 (-6)) x1 8 (-6)) x1 9 0) x1 10 (-6)) (cwV 3 hts gX0_takeBack_X0_setFact rfl rfl rfl (by decide +kernel) ⟨Nat.le_of_ble_eq_true rfl, Nat.le_of_ble_eq_true rfl⟩) hP hD hK hN ([0, 1, 2, 3] : List Nat) rfl rfl 0 0 rfl rfl rfl hl.1 rfl (Nat.le_of_ble_eq_true rfl) dX0_takeBack_40 ⟨Nat.zero_le _, Nat.zero_le _⟩) hP hD hS hA [0, 1, 2, 3] [] [0, 1, 2, 3] rfl rfl rfl (by decide) rfl rfl (fun H locs hP hD hS => ?_)
  rw [g_X0_takeBack] at hG
  rw [hG]
  exact W.vret hx hb hr (fun t ht hW => ⟨⟨(), rfl, trivial, by rw [ht]; exact hP, va_K.moved hW.alike hK, hD⟩, hS.F ht⟩) hS.2.2 dX0_takeBack_43

def g_X0_showColour_L7 (told : Int32) (ff : (Nat → Int32)) (x1 : Int32) (x2 : Int32) : Nat → Int32 → Int32 → (Nat → Int32) → (Nat → Int32) → (Nat → Int32) → (Int32 × (Nat → Int32) × (Nat → Int32) × (Nat → Int32))
  | 0, _, _, _, _, _ => (0, (fun _ => 0), (fun _ => 0), (fun _ => 0))
  | n + 1, v4, w_sz, w_bf, w_gf, w_ef => (if told ≤ v4 then (w_sz, w_bf, w_gf, w_ef) else (if (g_X0_fact ff v4 7) = x2 then (if (g_X0_fact ff v4 0) = x1 then (g_X0_showColour_L7 told ff x1 x2 n (v4 + 1) ((g_X2_add w_sz w_bf w_gf w_ef v4 (g_X0_fact ff v4 8) (g_X0_fact ff v4 9)).1) ((g_X2_add w_sz w_bf w_gf w_ef v4 (g_X0_fact ff v4 8) (g_X0_fact ff v4 9)).2.1) ((g_X2_add w_sz w_bf w_gf w_ef v4 (g_X0_fact ff v4 8) (g_X0_fact ff v4 9)).2.2.1) ((g_X2_add w_sz w_bf w_gf w_ef v4 (g_X0_fact ff v4 8) (g_X0_fact ff v4 9)).2.2.2)) else (g_X0_showColour_L7 told ff x1 x2 n (v4 + 1) w_sz w_bf w_gf w_ef)) else (g_X0_showColour_L7 told ff x1 x2 n (v4 + 1) w_sz w_bf w_gf w_ef)))
def g_X0_showColour (told : Int32) (ff : (Nat → Int32)) (bf : (Nat → Int32)) (gf : (Nat → Int32)) (ef : (Nat → Int32)) (x1 : Int32) (x2 : Int32) : Int32 × (Nat → Int32) × (Nat → Int32) × (Nat → Int32) := (g_X0_showColour_L7 told ff x1 x2 (((told).toInt - ((0 : Int32)).toInt).toNat + 1) 0 g_X2_clear bf gf ef)
set_option maxHeartbeats 4000000 in
set_option maxRecDepth 100000 in
theorem c_X0_showColour (l : Launch) (D : va_G) (cA cZ : ClassId) (aB : Nat) (aR : Nat) (aL : Nat) (aF : Nat) (aT : Nat) (aU : Nat) (aG : Nat) (aE : Nat) (szz : Nat) (now : Int32) (told : Int32) (rf : (Nat → Int32)) (lf : (Nat → Int32)) (ff : (Nat → Int32)) (sz : Int32) (bf : (Nat → Int32)) (gf : (Nat → Int32)) (ef : (Nat → Int32)) (x1 : Int32) (x2 : Int32) : MetV l yX0_showColour wsX0_showColour 2 45 D (tyA cA cZ) [.ref aB, .int x1, .int x2, .ref aT] (BKw cA aB aR aL aF now told rf lf ff ++ TRw cA aT aU aG aE sz bf gf ef) szz (BKw cA aB aR aL aF now told rf lf ff ++ TRw cA aT aU aG aE ((g_X0_showColour told ff bf gf ef x1 x2).1) ((g_X0_showColour told ff bf gf ef x1 x2).2.1) ((g_X0_showColour told ff bf gf ef x1 x2).2.2.1) ((g_X0_showColour told ff bf gf ef x1 x2).2.2.2)) := by
  refine Met.ofW (cc := cX0_showColour) (maxL := 5) (ret := none) (by decide) rfl ?_
  intro p e s m args below meth c s₁ B hml hv
  obtain ⟨rfl, hsz, hP, hK, hD0, hN⟩ := hv
  have hx := B.exec
  have hb := B.bytes
  have hr := B.returns
  have hts := atoms_spec (ws := wsX0_showColour) B.pre
  have hown : s.vm.findClass RX0 = some m.cls := findClass_of_methodNamed B.named
  have hlocks := B.notSynchronized
  have iX0 : ∀ w ∈ wsX00, w ∈ wsX0_showColour := fun _ h => List.mem_cons_of_mem _ (List.mem_append_left _ (List.mem_append_right _ h))
  have iX2 : ∀ w ∈ wsX20, w ∈ wsX0_showColour := fun _ h => List.mem_cons_of_mem _ (List.mem_append_right _ h)
  subst hsz
  have hD := hD0.self (sz := s.heap.size)
  generalize hAe : va_A (BKw cA aB aR aL aF now told rf lf ff ++ TRw cA aT aU aG aE sz bf gf ef) s.heap.size = A at hD ⊢
  have hA : ∀ q : Nat, s.heap.size ≤ q → A q := fun q h => by rw [← hAe]; exact Or.inr h
  have hS : va_S A s.heap s.heap [] := va_S.rf
  have hP : va_P D vwCl (BKw cA aB aR aL aF now told rf lf ff ++ TRw cA aT aU aG aE sz bf gf ef) s.heap := hP
  obtain ⟨G, hG⟩ : ∃ G, G = (g_X0_showColour told ff bf gf ef x1 x2) := ⟨_, rfl⟩
  rw [← hG]
  have hl := lv_entry ([.ref aB, .int x1, .int x2, .ref aT]) (n := 5) (Nat.le_of_ble_eq_true rfl)
  rw [lg_entry_eq]
  generalize (lg_sl ([.ref aB, .int x1, .int x2, .ref aT]) ++ List.replicate (5 - (lg_sl ([.ref aB, .int x1, .int x2, .ref aT])).length) Slot.unset).toArray = ls at hl ⊢
  have hl : lv_has ls 5 [(0, .ref aB), (1, .int x1), (2, .int x2), (3, .ref aT)] := hl
  refine lv_aload_n hx hb dX0_showColour_0 rfl (lv_at hl 3 rfl) ?_
  refine kV (wr := BKw cA aB aR aL aF now told rf lf ff) (W1 := TRw cA aT aU aG aE g_X2_clear bf gf ef) (wsN := BKw cA aB aR aL aF now told rf lf ff ++ TRw cA aT aU aG aE g_X2_clear bf gf ef) (rVN (As := []) (rest := []) (W0 := TRw cA aT aU aG aE sz bf gf ef) ⟨hx, hb, hml, hown, hts⟩ (c_X2_clear l D cA cZ aT aU aG aE s.heap.size sz bf gf ef) ⟨va_cnB 0 hts gX0_showColour_X2_clear_n54 rfl rfl rfl (hN (.methodLinkNest RX0 54 yX2_clear RX3) (List.mem_of_getElem? (i := 11) rfl)) (hts (.initialized RX2) (List.mem_of_getElem? (i := 3) rfl)) (by decide +kernel) ⟨Nat.le_of_ble_eq_true rfl, Nat.le_of_ble_eq_true rfl⟩, (hts (.instanceMethod yX2_clear) (List.mem_of_getElem? (i := 2) rfl)), (hts (.selects RX2 yX2_clear yX2_clear) (List.mem_of_getElem? (i := 4) rfl))⟩ hP hD hK hN ([4, 5, 6, 7] : List Nat) rfl rfl 2 0 rfl rfl rfl hl.1 rfl (Nat.le_of_ble_eq_true rfl) dX0_showColour_1 ⟨Nat.zero_le _, Nat.zero_le _⟩) hP hD hS hA [4, 5, 6, 7] [0, 1, 2, 3] [0, 1, 2, 3, 4, 5, 6, 7] rfl rfl rfl (by decide) rfl rfl (fun H locs hP hD hS => ?_)
  refine lv_iconst (v := 0) hx hb dX0_showColour_4 (by decide) ?_
  refine lv_istore (lv' := [(4, .int 0), (0, .ref aB), (1, .int x1), (2, .int x2), (3, .ref aT)]) hx hb dX0_showColour_5 hl (by decide) rfl (fun ls hl => ?_)
  rw [g_X0_showColour] at hG
  refine (?_ : ∀ (n : Nat) (v4 : Int32) (w_sz : Int32) (w_bf : (Nat → Int32)) (w_gf : (Nat → Int32)) (w_ef : (Nat → Int32)) (H : Heap) (locs : List Loc) (ls : Array Slot), ((told).toInt - (v4).toInt).toNat < n → G = g_X0_showColour_L7 told ff x1 x2 n v4 w_sz w_bf w_gf w_ef → va_P D vwCl (BKw cA aB aR aL aF now told rf lf ff ++ TRw cA aT aU aG aE w_sz w_bf w_gf w_ef) H → va_D A (BKw cA aB aR aL aF now told rf lf ff ++ TRw cA aT aU aG aE w_sz w_bf w_gf w_ef) → va_S A s.heap H locs → lv_has ls 5 [(0, .ref aB), (1, .int x1), (2, .int x2), (3, .ref aT), (4, .int v4)] → W p l e _ s m _ below meth c H locs _ _ _ (F0 m 7 ls [])) (((told).toInt - ((0 : Int32)).toInt).toNat + 1) 0 g_X2_clear bf gf ef _ _ _ (Nat.lt_succ_self _) hG hP hD hS (lv_sub hl [1, 2, 3, 4, 0] rfl)
  clear hG hP hD hS hl
  intro n
  induction n with
  | zero => intros; omega
  | succ n7 ih7 =>
    intro v4 w_sz w_bf w_gf w_ef H locs ls hm7 hG hP hD hS hl
    refine lv_iload hx hb dX0_showColour_7 (lv_at hl 4 rfl) ?_
    refine lv_aload_n hx hb dX0_showColour_9 rfl (lv_at hl 0 rfl) ?_
    refine va_get (D := D) (ci := 0) (v := .int told) (C := RX0) (T := TX0) (N := 5) hx hb hts iX0 hown hK hP 0 rfl rfl 1 (by decide) (hts (.fieldLink RX0 15 "LightBursts$Book" "told" "I") (List.mem_of_getElem? (i := 1) rfl)) (fun _ h9 => h9) rfl dX0_showColour_10 ?_
    refine lv_icmp_ge (tgt := 67) hx hb dX0_showColour_13 (by decide) (fun c_1 => ?_) (fun c_1 => ?_)
    · rw [g_X0_showColour_L7, if_pos c_1] at hG
      rw [hG]
      exact W.vret hx hb hr (fun t ht hW => ⟨⟨(), rfl, trivial, by rw [ht]; exact hP, va_K.moved hW.alike hK, hD⟩, hS.F ht⟩) hS.2.2 dX0_showColour_67
    · refine lv_aload_n hx hb dX0_showColour_16 rfl (lv_at hl 0 rfl) ?_
      refine lv_iload hx hb dX0_showColour_17 (lv_at hl 4 rfl) ?_
      refine lv_bipush (v := 7) hx hb dX0_showColour_19 (by decide) ?_
      refine kI (wr := TRw cA aT aU aG aE w_sz w_bf w_gf w_ef) (W1 := BKw cA aB aR aL aF now told rf lf ff) (wsN := BKw cA aB aR aL aF now told rf lf ff ++ TRw cA aT aU aG aE w_sz w_bf w_gf w_ef) (rV (As := [.int v4, .int 7]) (rest := []) (W0 := BKw cA aB aR aL aF now told rf lf ff) ⟨hx, hb, hml, hown, hts⟩ (c_X0_fact l D cA cZ aB aR aL aF H.size now told rf lf ff v4 7) (cwV 2 hts gX0_showColour_X0_fact rfl rfl rfl (by decide +kernel) ⟨Nat.le_of_ble_eq_true rfl, Nat.le_of_ble_eq_true rfl⟩) hP hD hK hN ([0, 1, 2, 3] : List Nat) rfl rfl 0 0 rfl rfl rfl hl.1 rfl (Nat.le_of_ble_eq_true rfl) dX0_showColour_21 ⟨Nat.zero_le _, Nat.zero_le _⟩) hP hD hS hA [0, 1, 2, 3] [4, 5, 6, 7] [4, 5, 6, 7, 0, 1, 2, 3] rfl rfl rfl (by decide) rfl rfl (fun H locs hP hD hS => ?_)
      refine lv_iload_n hx hb dX0_showColour_24 rfl (lv_at hl 2 rfl) ?_
      refine lv_icmp_ne (tgt := 61) hx hb dX0_showColour_25 (by decide) (fun c_2 => ?_) (fun c_2 => ?_)
      · refine lv_iinc (v := (v4 + 1)) (lv' := [(4, .int (v4 + 1)), (0, .ref aB), (1, .int x1), (2, .int x2), (3, .ref aT)]) hx hb dX0_showColour_61 hl (k := 4) rfl rfl (by decide) rfl (fun ls hl => ?_)
        refine lv_goto (tgt := 7) hx hb dX0_showColour_64 (by decide) ?_
        rw [g_X0_showColour_L7, if_neg c_1, if_neg c_2] at hG
        exact ih7 (v4 + 1) w_sz w_bf w_gf w_ef _ _ _ (by exact ms_up c_1 hm7) hG hP hD hS (lv_sub hl [1, 2, 3, 4, 0] rfl)
      · refine lv_aload_n hx hb dX0_showColour_28 rfl (lv_at hl 0 rfl) ?_
        refine lv_iload hx hb dX0_showColour_29 (lv_at hl 4 rfl) ?_
        refine lv_iconst (v := 0) hx hb dX0_showColour_31 (by decide) ?_
        refine kI (wr := TRw cA aT aU aG aE w_sz w_bf w_gf w_ef) (W1 := BKw cA aB aR aL aF now told rf lf ff) (wsN := BKw cA aB aR aL aF now told rf lf ff ++ TRw cA aT aU aG aE w_sz w_bf w_gf w_ef) (rV (As := [.int v4, .int 0]) (rest := []) (W0 := BKw cA aB aR aL aF now told rf lf ff) ⟨hx, hb, hml, hown, hts⟩ (c_X0_fact l D cA cZ aB aR aL aF H.size now told rf lf ff v4 0) (cwV 2 hts gX0_showColour_X0_fact rfl rfl rfl (by decide +kernel) ⟨Nat.le_of_ble_eq_true rfl, Nat.le_of_ble_eq_true rfl⟩) hP hD hK hN ([0, 1, 2, 3] : List Nat) rfl rfl 0 0 rfl rfl rfl hl.1 rfl (Nat.le_of_ble_eq_true rfl) dX0_showColour_32 ⟨Nat.zero_le _, Nat.zero_le _⟩) hP hD hS hA [0, 1, 2, 3] [4, 5, 6, 7] [4, 5, 6, 7, 0, 1, 2, 3] rfl rfl rfl (by decide) rfl rfl (fun H locs hP hD hS => ?_)
        refine lv_iload_n hx hb dX0_showColour_35 rfl (lv_at hl 1 rfl) ?_
        refine lv_icmp_ne (tgt := 61) hx hb dX0_showColour_36 (by decide) (fun c_3 => ?_) (fun c_3 => ?_)
        · refine lv_iinc (v := (v4 + 1)) (lv' := [(4, .int (v4 + 1)), (0, .ref aB), (1, .int x1), (2, .int x2), (3, .ref aT)]) hx hb dX0_showColour_61 hl (k := 4) rfl rfl (by decide) rfl (fun ls hl => ?_)
          refine lv_goto (tgt := 7) hx hb dX0_showColour_64 (by decide) ?_
          rw [g_X0_showColour_L7, if_neg c_1, if_pos c_2, if_neg c_3] at hG
          exact ih7 (v4 + 1) w_sz w_bf w_gf w_ef _ _ _ (by exact ms_up c_1 hm7) hG hP hD hS (lv_sub hl [1, 2, 3, 4, 0] rfl)
        · refine lv_aload_n hx hb dX0_showColour_39 rfl (lv_at hl 3 rfl) ?_
          refine lv_iload hx hb dX0_showColour_40 (lv_at hl 4 rfl) ?_
          refine lv_aload_n hx hb dX0_showColour_42 rfl (lv_at hl 0 rfl) ?_
          refine lv_iload hx hb dX0_showColour_43 (lv_at hl 4 rfl) ?_
          refine lv_bipush (v := 8) hx hb dX0_showColour_45 (by decide) ?_
          refine kI (wr := TRw cA aT aU aG aE w_sz w_bf w_gf w_ef) (W1 := BKw cA aB aR aL aF now told rf lf ff) (wsN := BKw cA aB aR aL aF now told rf lf ff ++ TRw cA aT aU aG aE w_sz w_bf w_gf w_ef) (rV (As := [.int v4, .int 8]) (rest := [.int v4, .ref aT]) (W0 := BKw cA aB aR aL aF now told rf lf ff) ⟨hx, hb, hml, hown, hts⟩ (c_X0_fact l D cA cZ aB aR aL aF H.size now told rf lf ff v4 8) (cwV 2 hts gX0_showColour_X0_fact rfl rfl rfl (by decide +kernel) ⟨Nat.le_of_ble_eq_true rfl, Nat.le_of_ble_eq_true rfl⟩) hP hD hK hN ([0, 1, 2, 3] : List Nat) rfl rfl 0 0 rfl rfl rfl hl.1 rfl (Nat.le_of_ble_eq_true rfl) dX0_showColour_47 ⟨Nat.zero_le _, Nat.zero_le _⟩) hP hD hS hA [0, 1, 2, 3] [4, 5, 6, 7] [4, 5, 6, 7, 0, 1, 2, 3] rfl rfl rfl (by decide) rfl rfl (fun H locs hP hD hS => ?_)
          refine lv_aload_n hx hb dX0_showColour_50 rfl (lv_at hl 0 rfl) ?_
          refine lv_iload hx hb dX0_showColour_51 (lv_at hl 4 rfl) ?_
          refine lv_bipush (v := 9) hx hb dX0_showColour_53 (by decide) ?_
          refine kI (wr := TRw cA aT aU aG aE w_sz w_bf w_gf w_ef) (W1 := BKw cA aB aR aL aF now told rf lf ff) (wsN := BKw cA aB aR aL aF now told rf lf ff ++ TRw cA aT aU aG aE w_sz w_bf w_gf w_ef) (rV (As := [.int v4, .int 9]) (rest := [.int (g_X0_fact ff v4 8), .int v4, .ref aT]) (W0 := BKw cA aB aR aL aF now told rf lf ff) ⟨hx, hb, hml, hown, hts⟩ (c_X0_fact l D cA cZ aB aR aL aF H.size now told rf lf ff v4 9) (cwV 2 hts gX0_showColour_X0_fact rfl rfl rfl (by decide +kernel) ⟨Nat.le_of_ble_eq_true rfl, Nat.le_of_ble_eq_true rfl⟩) hP hD hK hN ([0, 1, 2, 3] : List Nat) rfl rfl 0 0 rfl rfl rfl hl.1 rfl (Nat.le_of_ble_eq_true rfl) dX0_showColour_55 ⟨Nat.zero_le _, Nat.zero_le _⟩) hP hD hS hA [0, 1, 2, 3] [4, 5, 6, 7] [4, 5, 6, 7, 0, 1, 2, 3] rfl rfl rfl (by decide) rfl rfl (fun H locs hP hD hS => ?_)
          refine kV (wr := BKw cA aB aR aL aF now told rf lf ff) (W1 := TRw cA aT aU aG aE ((g_X2_add w_sz w_bf w_gf w_ef v4 (g_X0_fact ff v4 8) (g_X0_fact ff v4 9)).1) ((g_X2_add w_sz w_bf w_gf w_ef v4 (g_X0_fact ff v4 8) (g_X0_fact ff v4 9)).2.1) ((g_X2_add w_sz w_bf w_gf w_ef v4 (g_X0_fact ff v4 8) (g_X0_fact ff v4 9)).2.2.1) ((g_X2_add w_sz w_bf w_gf w_ef v4 (g_X0_fact ff v4 8) (g_X0_fact ff v4 9)).2.2.2)) (wsN := BKw cA aB aR aL aF now told rf lf ff ++ TRw cA aT aU aG aE ((g_X2_add w_sz w_bf w_gf w_ef v4 (g_X0_fact ff v4 8) (g_X0_fact ff v4 9)).1) ((g_X2_add w_sz w_bf w_gf w_ef v4 (g_X0_fact ff v4 8) (g_X0_fact ff v4 9)).2.1) ((g_X2_add w_sz w_bf w_gf w_ef v4 (g_X0_fact ff v4 8) (g_X0_fact ff v4 9)).2.2.1) ((g_X2_add w_sz w_bf w_gf w_ef v4 (g_X0_fact ff v4 8) (g_X0_fact ff v4 9)).2.2.2)) (rVN (As := [.int v4, .int (g_X0_fact ff v4 8), .int (g_X0_fact ff v4 9)]) (rest := []) (W0 := TRw cA aT aU aG aE w_sz w_bf w_gf w_ef) ⟨hx, hb, hml, hown, hts⟩ (c_X2_add l D cA cZ aT aU aG aE H.size w_sz w_bf w_gf w_ef v4 (g_X0_fact ff v4 8) (g_X0_fact ff v4 9)) ⟨va_cnB 3 hts gX0_showColour_X2_add_n63 rfl rfl rfl (hN (.methodLinkNest RX0 63 yX2_add RX3) (List.mem_of_getElem? (i := 13) rfl)) (hts (.initialized RX2) (List.mem_of_getElem? (i := 3) rfl)) (by decide +kernel) ⟨Nat.le_of_ble_eq_true rfl, Nat.le_of_ble_eq_true rfl⟩, (hts (.instanceMethod yX2_add) (List.mem_of_getElem? (i := 16) rfl)), (hts (.selects RX2 yX2_add yX2_add) (List.mem_of_getElem? (i := 17) rfl))⟩ hP hD hK hN ([4, 5, 6, 7] : List Nat) rfl rfl 2 0 rfl rfl rfl hl.1 rfl (Nat.le_of_ble_eq_true rfl) dX0_showColour_58 ⟨Nat.zero_le _, Nat.zero_le _⟩) hP hD hS hA [4, 5, 6, 7] [0, 1, 2, 3] [0, 1, 2, 3, 4, 5, 6, 7] rfl rfl rfl (by decide) rfl rfl (fun H locs hP hD hS => ?_)
          refine lv_iinc (v := (v4 + 1)) (lv' := [(4, .int (v4 + 1)), (0, .ref aB), (1, .int x1), (2, .int x2), (3, .ref aT)]) hx hb dX0_showColour_61 hl (k := 4) rfl rfl (by decide) rfl (fun ls hl => ?_)
          refine lv_goto (tgt := 7) hx hb dX0_showColour_64 (by decide) ?_
          rw [g_X0_showColour_L7, if_neg c_1, if_pos c_2, if_pos c_3] at hG
          exact ih7 (v4 + 1) ((g_X2_add w_sz w_bf w_gf w_ef v4 (g_X0_fact ff v4 8) (g_X0_fact ff v4 9)).1) ((g_X2_add w_sz w_bf w_gf w_ef v4 (g_X0_fact ff v4 8) (g_X0_fact ff v4 9)).2.1) ((g_X2_add w_sz w_bf w_gf w_ef v4 (g_X0_fact ff v4 8) (g_X0_fact ff v4 9)).2.2.1) ((g_X2_add w_sz w_bf w_gf w_ef v4 (g_X0_fact ff v4 8) (g_X0_fact ff v4 9)).2.2.2) _ _ _ (by exact ms_up c_1 hm7) hG hP hD hS (lv_sub hl [1, 2, 3, 4, 0] rfl)

def g_X0_showLine_L6 (told : Int32) (ff : (Nat → Int32)) (x1 : Int32) : Nat → Int32 → Int32 → (Nat → Int32) → (Nat → Int32) → (Nat → Int32) → (Int32 × (Nat → Int32) × (Nat → Int32) × (Nat → Int32))
  | 0, _, _, _, _, _ => (0, (fun _ => 0), (fun _ => 0), (fun _ => 0))
  | n + 1, v3, w_sz, w_bf, w_gf, w_ef => (if told ≤ v3 then (w_sz, w_bf, w_gf, w_ef) else (if (g_X0_fact ff v3 10) = x1 then (g_X0_showLine_L6 told ff x1 n (v3 + 1) ((g_X2_add w_sz w_bf w_gf w_ef v3 (g_X0_fact ff v3 5) (g_X0_fact ff v3 4)).1) ((g_X2_add w_sz w_bf w_gf w_ef v3 (g_X0_fact ff v3 5) (g_X0_fact ff v3 4)).2.1) ((g_X2_add w_sz w_bf w_gf w_ef v3 (g_X0_fact ff v3 5) (g_X0_fact ff v3 4)).2.2.1) ((g_X2_add w_sz w_bf w_gf w_ef v3 (g_X0_fact ff v3 5) (g_X0_fact ff v3 4)).2.2.2)) else (g_X0_showLine_L6 told ff x1 n (v3 + 1) w_sz w_bf w_gf w_ef)))
def g_X0_showLine (told : Int32) (ff : (Nat → Int32)) (bf : (Nat → Int32)) (gf : (Nat → Int32)) (ef : (Nat → Int32)) (x1 : Int32) : Int32 × (Nat → Int32) × (Nat → Int32) × (Nat → Int32) := (g_X0_showLine_L6 told ff x1 (((told).toInt - ((0 : Int32)).toInt).toNat + 1) 0 g_X2_clear bf gf ef)
set_option maxHeartbeats 4000000 in
set_option maxRecDepth 100000 in
theorem c_X0_showLine (l : Launch) (D : va_G) (cA cZ : ClassId) (aB : Nat) (aR : Nat) (aL : Nat) (aF : Nat) (aT : Nat) (aU : Nat) (aG : Nat) (aE : Nat) (szz : Nat) (now : Int32) (told : Int32) (rf : (Nat → Int32)) (lf : (Nat → Int32)) (ff : (Nat → Int32)) (sz : Int32) (bf : (Nat → Int32)) (gf : (Nat → Int32)) (ef : (Nat → Int32)) (x1 : Int32) : MetV l yX0_showLine wsX0_showLine 2 45 D (tyA cA cZ) [.ref aB, .int x1, .ref aT] (BKw cA aB aR aL aF now told rf lf ff ++ TRw cA aT aU aG aE sz bf gf ef) szz (BKw cA aB aR aL aF now told rf lf ff ++ TRw cA aT aU aG aE ((g_X0_showLine told ff bf gf ef x1).1) ((g_X0_showLine told ff bf gf ef x1).2.1) ((g_X0_showLine told ff bf gf ef x1).2.2.1) ((g_X0_showLine told ff bf gf ef x1).2.2.2)) := by
  refine Met.ofW (cc := cX0_showLine) (maxL := 4) (ret := none) (by decide) rfl ?_
  intro p e s m args below meth c s₁ B hml hv
  obtain ⟨rfl, hsz, hP, hK, hD0, hN⟩ := hv
  have hx := B.exec
  have hb := B.bytes
  have hr := B.returns
  have hts := atoms_spec (ws := wsX0_showLine) B.pre
  have hown : s.vm.findClass RX0 = some m.cls := findClass_of_methodNamed B.named
  have hlocks := B.notSynchronized
  have iX0 : ∀ w ∈ wsX00, w ∈ wsX0_showLine := fun _ h => List.mem_cons_of_mem _ (List.mem_append_left _ (List.mem_append_right _ h))
  have iX2 : ∀ w ∈ wsX20, w ∈ wsX0_showLine := fun _ h => List.mem_cons_of_mem _ (List.mem_append_right _ h)
  subst hsz
  have hD := hD0.self (sz := s.heap.size)
  generalize hAe : va_A (BKw cA aB aR aL aF now told rf lf ff ++ TRw cA aT aU aG aE sz bf gf ef) s.heap.size = A at hD ⊢
  have hA : ∀ q : Nat, s.heap.size ≤ q → A q := fun q h => by rw [← hAe]; exact Or.inr h
  have hS : va_S A s.heap s.heap [] := va_S.rf
  have hP : va_P D vwCl (BKw cA aB aR aL aF now told rf lf ff ++ TRw cA aT aU aG aE sz bf gf ef) s.heap := hP
  obtain ⟨G, hG⟩ : ∃ G, G = (g_X0_showLine told ff bf gf ef x1) := ⟨_, rfl⟩
  rw [← hG]
  have hl := lv_entry ([.ref aB, .int x1, .ref aT]) (n := 4) (Nat.le_of_ble_eq_true rfl)
  rw [lg_entry_eq]
  generalize (lg_sl ([.ref aB, .int x1, .ref aT]) ++ List.replicate (4 - (lg_sl ([.ref aB, .int x1, .ref aT])).length) Slot.unset).toArray = ls at hl ⊢
  have hl : lv_has ls 4 [(0, .ref aB), (1, .int x1), (2, .ref aT)] := hl
  refine lv_aload_n hx hb dX0_showLine_0 rfl (lv_at hl 2 rfl) ?_
  refine kV (wr := BKw cA aB aR aL aF now told rf lf ff) (W1 := TRw cA aT aU aG aE g_X2_clear bf gf ef) (wsN := BKw cA aB aR aL aF now told rf lf ff ++ TRw cA aT aU aG aE g_X2_clear bf gf ef) (rVN (As := []) (rest := []) (W0 := TRw cA aT aU aG aE sz bf gf ef) ⟨hx, hb, hml, hown, hts⟩ (c_X2_clear l D cA cZ aT aU aG aE s.heap.size sz bf gf ef) ⟨va_cnB 0 hts gX0_showLine_X2_clear_n54 rfl rfl rfl (hN (.methodLinkNest RX0 54 yX2_clear RX3) (List.mem_of_getElem? (i := 11) rfl)) (hts (.initialized RX2) (List.mem_of_getElem? (i := 3) rfl)) (by decide +kernel) ⟨Nat.le_of_ble_eq_true rfl, Nat.le_of_ble_eq_true rfl⟩, (hts (.instanceMethod yX2_clear) (List.mem_of_getElem? (i := 2) rfl)), (hts (.selects RX2 yX2_clear yX2_clear) (List.mem_of_getElem? (i := 4) rfl))⟩ hP hD hK hN ([4, 5, 6, 7] : List Nat) rfl rfl 2 0 rfl rfl rfl hl.1 rfl (Nat.le_of_ble_eq_true rfl) dX0_showLine_1 ⟨Nat.zero_le _, Nat.zero_le _⟩) hP hD hS hA [4, 5, 6, 7] [0, 1, 2, 3] [0, 1, 2, 3, 4, 5, 6, 7] rfl rfl rfl (by decide) rfl rfl (fun H locs hP hD hS => ?_)
  refine lv_iconst (v := 0) hx hb dX0_showLine_4 (by decide) ?_
  refine lv_istore_n (lv' := [(3, .int 0), (0, .ref aB), (1, .int x1), (2, .ref aT)]) hx hb dX0_showLine_5 rfl hl (by decide) rfl (fun ls hl => ?_)
  rw [g_X0_showLine] at hG
  refine (?_ : ∀ (n : Nat) (v3 : Int32) (w_sz : Int32) (w_bf : (Nat → Int32)) (w_gf : (Nat → Int32)) (w_ef : (Nat → Int32)) (H : Heap) (locs : List Loc) (ls : Array Slot), ((told).toInt - (v3).toInt).toNat < n → G = g_X0_showLine_L6 told ff x1 n v3 w_sz w_bf w_gf w_ef → va_P D vwCl (BKw cA aB aR aL aF now told rf lf ff ++ TRw cA aT aU aG aE w_sz w_bf w_gf w_ef) H → va_D A (BKw cA aB aR aL aF now told rf lf ff ++ TRw cA aT aU aG aE w_sz w_bf w_gf w_ef) → va_S A s.heap H locs → lv_has ls 4 [(0, .ref aB), (1, .int x1), (2, .ref aT), (3, .int v3)] → W p l e _ s m _ below meth c H locs _ _ _ (F0 m 6 ls [])) (((told).toInt - ((0 : Int32)).toInt).toNat + 1) 0 g_X2_clear bf gf ef _ _ _ (Nat.lt_succ_self _) hG hP hD hS (lv_sub hl [1, 2, 3, 0] rfl)
  clear hG hP hD hS hl
  intro n
  induction n with
  | zero => intros; omega
  | succ n6 ih6 =>
    intro v3 w_sz w_bf w_gf w_ef H locs ls hm6 hG hP hD hS hl
    refine lv_iload_n hx hb dX0_showLine_6 rfl (lv_at hl 3 rfl) ?_
    refine lv_aload_n hx hb dX0_showLine_7 rfl (lv_at hl 0 rfl) ?_
    refine va_get (D := D) (ci := 0) (v := .int told) (C := RX0) (T := TX0) (N := 5) hx hb hts iX0 hown hK hP 0 rfl rfl 1 (by decide) (hts (.fieldLink RX0 15 "LightBursts$Book" "told" "I") (List.mem_of_getElem? (i := 1) rfl)) (fun _ h9 => h9) rfl dX0_showLine_8 ?_
    refine lv_icmp_ge (tgt := 48) hx hb dX0_showLine_11 (by decide) (fun c_1 => ?_) (fun c_1 => ?_)
    · rw [g_X0_showLine_L6, if_pos c_1] at hG
      rw [hG]
      exact W.vret hx hb hr (fun t ht hW => ⟨⟨(), rfl, trivial, by rw [ht]; exact hP, va_K.moved hW.alike hK, hD⟩, hS.F ht⟩) hS.2.2 dX0_showLine_48
    · refine lv_aload_n hx hb dX0_showLine_14 rfl (lv_at hl 0 rfl) ?_
      refine lv_iload_n hx hb dX0_showLine_15 rfl (lv_at hl 3 rfl) ?_
      refine lv_bipush (v := 10) hx hb dX0_showLine_16 (by decide) ?_
      refine kI (wr := TRw cA aT aU aG aE w_sz w_bf w_gf w_ef) (W1 := BKw cA aB aR aL aF now told rf lf ff) (wsN := BKw cA aB aR aL aF now told rf lf ff ++ TRw cA aT aU aG aE w_sz w_bf w_gf w_ef) (rV (As := [.int v3, .int 10]) (rest := []) (W0 := BKw cA aB aR aL aF now told rf lf ff) ⟨hx, hb, hml, hown, hts⟩ (c_X0_fact l D cA cZ aB aR aL aF H.size now told rf lf ff v3 10) (cwV 2 hts gX0_showLine_X0_fact rfl rfl rfl (by decide +kernel) ⟨Nat.le_of_ble_eq_true rfl, Nat.le_of_ble_eq_true rfl⟩) hP hD hK hN ([0, 1, 2, 3] : List Nat) rfl rfl 0 0 rfl rfl rfl hl.1 rfl (Nat.le_of_ble_eq_true rfl) dX0_showLine_18 ⟨Nat.zero_le _, Nat.zero_le _⟩) hP hD hS hA [0, 1, 2, 3] [4, 5, 6, 7] [4, 5, 6, 7, 0, 1, 2, 3] rfl rfl rfl (by decide) rfl rfl (fun H locs hP hD hS => ?_)
      refine lv_iload_n hx hb dX0_showLine_21 rfl (lv_at hl 1 rfl) ?_
      refine lv_icmp_ne (tgt := 42) hx hb dX0_showLine_22 (by decide) (fun c_2 => ?_) (fun c_2 => ?_)
      · refine lv_iinc (v := (v3 + 1)) (lv' := [(3, .int (v3 + 1)), (0, .ref aB), (1, .int x1), (2, .ref aT)]) hx hb dX0_showLine_42 hl (k := 3) rfl rfl (by decide) rfl (fun ls hl => ?_)
        refine lv_goto (tgt := 6) hx hb dX0_showLine_45 (by decide) ?_
        rw [g_X0_showLine_L6, if_neg c_1, if_neg c_2] at hG
        exact ih6 (v3 + 1) w_sz w_bf w_gf w_ef _ _ _ (by exact ms_up c_1 hm6) hG hP hD hS (lv_sub hl [1, 2, 3, 0] rfl)
      · refine lv_aload_n hx hb dX0_showLine_25 rfl (lv_at hl 2 rfl) ?_
        refine lv_iload_n hx hb dX0_showLine_26 rfl (lv_at hl 3 rfl) ?_
        refine lv_aload_n hx hb dX0_showLine_27 rfl (lv_at hl 0 rfl) ?_
        refine lv_iload_n hx hb dX0_showLine_28 rfl (lv_at hl 3 rfl) ?_
        refine lv_iconst (v := 5) hx hb dX0_showLine_29 (by decide) ?_
        refine kI (wr := TRw cA aT aU aG aE w_sz w_bf w_gf w_ef) (W1 := BKw cA aB aR aL aF now told rf lf ff) (wsN := BKw cA aB aR aL aF now told rf lf ff ++ TRw cA aT aU aG aE w_sz w_bf w_gf w_ef) (rV (As := [.int v3, .int 5]) (rest := [.int v3, .ref aT]) (W0 := BKw cA aB aR aL aF now told rf lf ff) ⟨hx, hb, hml, hown, hts⟩ (c_X0_fact l D cA cZ aB aR aL aF H.size now told rf lf ff v3 5) (cwV 2 hts gX0_showLine_X0_fact rfl rfl rfl (by decide +kernel) ⟨Nat.le_of_ble_eq_true rfl, Nat.le_of_ble_eq_true rfl⟩) hP hD hK hN ([0, 1, 2, 3] : List Nat) rfl rfl 0 0 rfl rfl rfl hl.1 rfl (Nat.le_of_ble_eq_true rfl) dX0_showLine_30 ⟨Nat.zero_le _, Nat.zero_le _⟩) hP hD hS hA [0, 1, 2, 3] [4, 5, 6, 7] [4, 5, 6, 7, 0, 1, 2, 3] rfl rfl rfl (by decide) rfl rfl (fun H locs hP hD hS => ?_)
        refine lv_aload_n hx hb dX0_showLine_33 rfl (lv_at hl 0 rfl) ?_
        refine lv_iload_n hx hb dX0_showLine_34 rfl (lv_at hl 3 rfl) ?_
        refine lv_iconst (v := 4) hx hb dX0_showLine_35 (by decide) ?_
        refine kI (wr := TRw cA aT aU aG aE w_sz w_bf w_gf w_ef) (W1 := BKw cA aB aR aL aF now told rf lf ff) (wsN := BKw cA aB aR aL aF now told rf lf ff ++ TRw cA aT aU aG aE w_sz w_bf w_gf w_ef) (rV (As := [.int v3, .int 4]) (rest := [.int (g_X0_fact ff v3 5), .int v3, .ref aT]) (W0 := BKw cA aB aR aL aF now told rf lf ff) ⟨hx, hb, hml, hown, hts⟩ (c_X0_fact l D cA cZ aB aR aL aF H.size now told rf lf ff v3 4) (cwV 2 hts gX0_showLine_X0_fact rfl rfl rfl (by decide +kernel) ⟨Nat.le_of_ble_eq_true rfl, Nat.le_of_ble_eq_true rfl⟩) hP hD hK hN ([0, 1, 2, 3] : List Nat) rfl rfl 0 0 rfl rfl rfl hl.1 rfl (Nat.le_of_ble_eq_true rfl) dX0_showLine_36 ⟨Nat.zero_le _, Nat.zero_le _⟩) hP hD hS hA [0, 1, 2, 3] [4, 5, 6, 7] [4, 5, 6, 7, 0, 1, 2, 3] rfl rfl rfl (by decide) rfl rfl (fun H locs hP hD hS => ?_)
        refine kV (wr := BKw cA aB aR aL aF now told rf lf ff) (W1 := TRw cA aT aU aG aE ((g_X2_add w_sz w_bf w_gf w_ef v3 (g_X0_fact ff v3 5) (g_X0_fact ff v3 4)).1) ((g_X2_add w_sz w_bf w_gf w_ef v3 (g_X0_fact ff v3 5) (g_X0_fact ff v3 4)).2.1) ((g_X2_add w_sz w_bf w_gf w_ef v3 (g_X0_fact ff v3 5) (g_X0_fact ff v3 4)).2.2.1) ((g_X2_add w_sz w_bf w_gf w_ef v3 (g_X0_fact ff v3 5) (g_X0_fact ff v3 4)).2.2.2)) (wsN := BKw cA aB aR aL aF now told rf lf ff ++ TRw cA aT aU aG aE ((g_X2_add w_sz w_bf w_gf w_ef v3 (g_X0_fact ff v3 5) (g_X0_fact ff v3 4)).1) ((g_X2_add w_sz w_bf w_gf w_ef v3 (g_X0_fact ff v3 5) (g_X0_fact ff v3 4)).2.1) ((g_X2_add w_sz w_bf w_gf w_ef v3 (g_X0_fact ff v3 5) (g_X0_fact ff v3 4)).2.2.1) ((g_X2_add w_sz w_bf w_gf w_ef v3 (g_X0_fact ff v3 5) (g_X0_fact ff v3 4)).2.2.2)) (rVN (As := [.int v3, .int (g_X0_fact ff v3 5), .int (g_X0_fact ff v3 4)]) (rest := []) (W0 := TRw cA aT aU aG aE w_sz w_bf w_gf w_ef) ⟨hx, hb, hml, hown, hts⟩ (c_X2_add l D cA cZ aT aU aG aE H.size w_sz w_bf w_gf w_ef v3 (g_X0_fact ff v3 5) (g_X0_fact ff v3 4)) ⟨va_cnB 3 hts gX0_showLine_X2_add_n63 rfl rfl rfl (hN (.methodLinkNest RX0 63 yX2_add RX3) (List.mem_of_getElem? (i := 13) rfl)) (hts (.initialized RX2) (List.mem_of_getElem? (i := 3) rfl)) (by decide +kernel) ⟨Nat.le_of_ble_eq_true rfl, Nat.le_of_ble_eq_true rfl⟩, (hts (.instanceMethod yX2_add) (List.mem_of_getElem? (i := 16) rfl)), (hts (.selects RX2 yX2_add yX2_add) (List.mem_of_getElem? (i := 17) rfl))⟩ hP hD hK hN ([4, 5, 6, 7] : List Nat) rfl rfl 2 0 rfl rfl rfl hl.1 rfl (Nat.le_of_ble_eq_true rfl) dX0_showLine_39 ⟨Nat.zero_le _, Nat.zero_le _⟩) hP hD hS hA [4, 5, 6, 7] [0, 1, 2, 3] [0, 1, 2, 3, 4, 5, 6, 7] rfl rfl rfl (by decide) rfl rfl (fun H locs hP hD hS => ?_)
        refine lv_iinc (v := (v3 + 1)) (lv' := [(3, .int (v3 + 1)), (0, .ref aB), (1, .int x1), (2, .ref aT)]) hx hb dX0_showLine_42 hl (k := 3) rfl rfl (by decide) rfl (fun ls hl => ?_)
        refine lv_goto (tgt := 6) hx hb dX0_showLine_45 (by decide) ?_
        rw [g_X0_showLine_L6, if_neg c_1, if_pos c_2] at hG
        exact ih6 (v3 + 1) ((g_X2_add w_sz w_bf w_gf w_ef v3 (g_X0_fact ff v3 5) (g_X0_fact ff v3 4)).1) ((g_X2_add w_sz w_bf w_gf w_ef v3 (g_X0_fact ff v3 5) (g_X0_fact ff v3 4)).2.1) ((g_X2_add w_sz w_bf w_gf w_ef v3 (g_X0_fact ff v3 5) (g_X0_fact ff v3 4)).2.2.1) ((g_X2_add w_sz w_bf w_gf w_ef v3 (g_X0_fact ff v3 5) (g_X0_fact ff v3 4)).2.2.2) _ _ _ (by exact ms_up c_1 hm6) hG hP hD hS (lv_sub hl [1, 2, 3, 0] rfl)

theorem showColour_L_le (told : Int32) (ff : Nat → Int32) (x1 x2 : Int32) : ∀ (n : Nat) (v : Int32) (w : Int32) (b g e : Nat → Int32), w ≤ 48 → (g_X0_showColour_L7 told ff x1 x2 n v w b g e).1 ≤ 48 := by
  intro n
  induction n with
  | zero => intros; exact (show (0 : Int32) ≤ 48 by decide)
  | succ n ih =>
    intro v w b g e h
    rw [g_X0_showColour_L7]
    split
    · exact h
    · split
      · split
        · exact ih _ _ _ _ _ (add_le h)
        · exact ih _ _ _ _ _ h
      · exact ih _ _ _ _ _ h
theorem showColour_le {told : Int32} {ff : Nat → Int32} {b g e : Nat → Int32} {x1 x2 : Int32} : (g_X0_showColour told ff b g e x1 x2).1 ≤ 48 := by
  unfold g_X0_showColour
  exact showColour_L_le _ _ _ _ _ _ _ _ _ _ (show (0 : Int32) ≤ 48 by decide)
theorem showLine_L_le (told : Int32) (ff : Nat → Int32) (x1 : Int32) : ∀ (n : Nat) (v : Int32) (w : Int32) (b g e : Nat → Int32), w ≤ 48 → (g_X0_showLine_L6 told ff x1 n v w b g e).1 ≤ 48 := by
  intro n
  induction n with
  | zero => intros; exact (show (0 : Int32) ≤ 48 by decide)
  | succ n ih =>
    intro v w b g e h
    rw [g_X0_showLine_L6]
    split
    · exact h
    · split
      · exact ih _ _ _ _ _ (add_le h)
      · exact ih _ _ _ _ _ h
theorem showLine_le {told : Int32} {ff : Nat → Int32} {b g e : Nat → Int32} {x1 : Int32} : (g_X0_showLine told ff b g e x1).1 ≤ 48 := by
  unfold g_X0_showLine
  exact showLine_L_le _ _ _ _ _ _ _ _ _ (show (0 : Int32) ≤ 48 by decide)

def g_X0_isTallied (ff : (Nat → Int32)) (x1 : Int32) (x2 : Int32) : Int32 := (if (g_X0_fact ff x1 2) = x2 then (if (g_X0_fact ff x1 6) = 4 then 0 else 1) else 0)
set_option maxHeartbeats 4000000 in
set_option maxRecDepth 100000 in
theorem c_X0_isTallied (l : Launch) (D : va_G) (cA cZ : ClassId) (aB : Nat) (aR : Nat) (aL : Nat) (aF : Nat) (szz : Nat) (now : Int32) (told : Int32) (rf : (Nat → Int32)) (lf : (Nat → Int32)) (ff : (Nat → Int32)) (x1 : Int32) (x2 : Int32) : MetI l yX0_isTallied wsX0_isTallied 2 44 D (tyA cA cZ) [.ref aB, .int x1, .int x2] (BKw cA aB aR aL aF now told rf lf ff) szz (g_X0_isTallied ff x1 x2) (BKw cA aB aR aL aF now told rf lf ff) := by
  refine Met.ofW (cc := cX0_isTallied) (maxL := 3) (ret := (some .boolean)) (by decide) rfl ?_
  intro p e s m args below meth c s₁ B hml hv
  obtain ⟨rfl, hsz, hP, hK, hD0, hN⟩ := hv
  have hx := B.exec
  have hb := B.bytes
  have hr := B.returns
  have hts := atoms_spec (ws := wsX0_isTallied) B.pre
  have hown : s.vm.findClass RX0 = some m.cls := findClass_of_methodNamed B.named
  have hlocks := B.notSynchronized
  have iX0 : ∀ w ∈ wsX00, w ∈ wsX0_isTallied := fun _ h => List.mem_cons_of_mem _ (List.mem_append_right _ h)
  subst hsz
  have hD := hD0.self (sz := s.heap.size)
  generalize hAe : va_A (BKw cA aB aR aL aF now told rf lf ff) s.heap.size = A at hD ⊢
  have hA : ∀ q : Nat, s.heap.size ≤ q → A q := fun q h => by rw [← hAe]; exact Or.inr h
  have hS : va_S A s.heap s.heap [] := va_S.rf
  have hP : va_P D vwCl (BKw cA aB aR aL aF now told rf lf ff) s.heap := hP
  obtain ⟨G, hG⟩ : ∃ G, G = (g_X0_isTallied ff x1 x2) := ⟨_, rfl⟩
  rw [← hG]
  have hl := lv_entry ([.ref aB, .int x1, .int x2]) (n := 3) (Nat.le_of_ble_eq_true rfl)
  rw [lg_entry_eq]
  generalize (lg_sl ([.ref aB, .int x1, .int x2]) ++ List.replicate (3 - (lg_sl ([.ref aB, .int x1, .int x2])).length) Slot.unset).toArray = ls at hl ⊢
  have hl : lv_has ls 3 [(0, .ref aB), (1, .int x1), (2, .int x2)] := hl
  refine lv_aload_n hx hb dX0_isTallied_0 rfl (lv_at hl 0 rfl) ?_
  refine lv_iload_n hx hb dX0_isTallied_1 rfl (lv_at hl 1 rfl) ?_
  refine lv_iconst (v := 2) hx hb dX0_isTallied_2 (by decide) ?_
  refine kI (wr := ([] : va_W)) (W1 := BKw cA aB aR aL aF now told rf lf ff) (wsN := BKw cA aB aR aL aF now told rf lf ff) (rV (As := [.int x1, .int 2]) (rest := []) (W0 := BKw cA aB aR aL aF now told rf lf ff) ⟨hx, hb, hml, hown, hts⟩ (c_X0_fact l D cA cZ aB aR aL aF s.heap.size now told rf lf ff x1 2) (cwV 2 hts gX0_isTallied_X0_fact rfl rfl rfl (by decide +kernel) ⟨Nat.le_of_ble_eq_true rfl, Nat.le_of_ble_eq_true rfl⟩) hP hD hK hN ([0, 1, 2, 3] : List Nat) rfl rfl 0 0 rfl rfl rfl hl.1 rfl (Nat.le_of_ble_eq_true rfl) dX0_isTallied_3 ⟨Nat.zero_le _, Nat.zero_le _⟩) hP hD hS hA [0, 1, 2, 3] [] [0, 1, 2, 3] rfl rfl rfl (by decide) rfl rfl (fun H locs hP hD hS => ?_)
  refine lv_iload_n hx hb dX0_isTallied_6 rfl (lv_at hl 2 rfl) ?_
  refine lv_icmp_ne (tgt := 25) hx hb dX0_isTallied_7 (by decide) (fun c_1 => ?_) (fun c_1 => ?_)
  · refine lv_iconst (v := 0) hx hb dX0_isTallied_25 (by decide) ?_
    rw [g_X0_isTallied, if_neg c_1] at hG
    rw [hG]
    exact W.zret (v := 0) hx hb hr rfl (fun t ht hW => ⟨⟨_, (), rfl, rfl, by rw [ht]; exact hP, va_K.moved hW.alike hK, hD⟩, hS.F ht⟩) hS.2.2 dX0_isTallied_26
  · refine lv_aload_n hx hb dX0_isTallied_10 rfl (lv_at hl 0 rfl) ?_
    refine lv_iload_n hx hb dX0_isTallied_11 rfl (lv_at hl 1 rfl) ?_
    refine lv_bipush (v := 6) hx hb dX0_isTallied_12 (by decide) ?_
    refine kI (wr := ([] : va_W)) (W1 := BKw cA aB aR aL aF now told rf lf ff) (wsN := BKw cA aB aR aL aF now told rf lf ff) (rV (As := [.int x1, .int 6]) (rest := []) (W0 := BKw cA aB aR aL aF now told rf lf ff) ⟨hx, hb, hml, hown, hts⟩ (c_X0_fact l D cA cZ aB aR aL aF H.size now told rf lf ff x1 6) (cwV 2 hts gX0_isTallied_X0_fact rfl rfl rfl (by decide +kernel) ⟨Nat.le_of_ble_eq_true rfl, Nat.le_of_ble_eq_true rfl⟩) hP hD hK hN ([0, 1, 2, 3] : List Nat) rfl rfl 0 0 rfl rfl rfl hl.1 rfl (Nat.le_of_ble_eq_true rfl) dX0_isTallied_14 ⟨Nat.zero_le _, Nat.zero_le _⟩) hP hD hS hA [0, 1, 2, 3] [] [0, 1, 2, 3] rfl rfl rfl (by decide) rfl rfl (fun H locs hP hD hS => ?_)
    refine lv_iconst (v := 4) hx hb dX0_isTallied_17 (by decide) ?_
    refine lv_icmp_eq (tgt := 25) hx hb dX0_isTallied_18 (by decide) (fun c_2 => ?_) (fun c_2 => ?_)
    · refine lv_iconst (v := 0) hx hb dX0_isTallied_25 (by decide) ?_
      rw [g_X0_isTallied, if_pos c_1, if_pos c_2] at hG
      rw [hG]
      exact W.zret (v := 0) hx hb hr rfl (fun t ht hW => ⟨⟨_, (), rfl, rfl, by rw [ht]; exact hP, va_K.moved hW.alike hK, hD⟩, hS.F ht⟩) hS.2.2 dX0_isTallied_26
    · refine lv_iconst (v := 1) hx hb dX0_isTallied_21 (by decide) ?_
      refine lv_goto (tgt := 26) hx hb dX0_isTallied_22 (by decide) ?_
      rw [g_X0_isTallied, if_pos c_1, if_neg c_2] at hG
      rw [hG]
      exact W.zret (v := 1) hx hb hr rfl (fun t ht hW => ⟨⟨_, (), rfl, rfl, by rw [ht]; exact hP, va_K.moved hW.alike hK, hD⟩, hS.F ht⟩) hS.2.2 dX0_isTallied_26

def g_X0_burstsOfClass_L4 (told : Int32) (ff : (Nat → Int32)) (x1 : Int32) : Nat → Int32 → Int32 → (Int32)
  | 0, _, _ => 0
  | n + 1, v2, v3 => (if told ≤ v3 then v2 else (if (g_X0_isTallied ff v3 x1) = 0 then (g_X0_burstsOfClass_L4 told ff x1 n v2 (v3 + 1)) else (g_X0_burstsOfClass_L4 told ff x1 n (v2 + 1) (v3 + 1))))
def g_X0_burstsOfClass (told : Int32) (ff : (Nat → Int32)) (x1 : Int32) : Int32 := (g_X0_burstsOfClass_L4 told ff x1 (((told).toInt - ((0 : Int32)).toInt).toNat + 1) 0 0)
set_option maxHeartbeats 4000000 in
set_option maxRecDepth 100000 in
theorem c_X0_burstsOfClass (l : Launch) (D : va_G) (cA cZ : ClassId) (aB : Nat) (aR : Nat) (aL : Nat) (aF : Nat) (szz : Nat) (now : Int32) (told : Int32) (rf : (Nat → Int32)) (lf : (Nat → Int32)) (ff : (Nat → Int32)) (x1 : Int32) : MetI l yX0_burstsOfClass wsX0_burstsOfClass 3 66 D (tyA cA cZ) [.ref aB, .int x1] (BKw cA aB aR aL aF now told rf lf ff) szz (g_X0_burstsOfClass told ff x1) (BKw cA aB aR aL aF now told rf lf ff) := by
  refine Met.ofW (cc := cX0_burstsOfClass) (maxL := 4) (ret := (some .int)) (by decide) rfl ?_
  intro p e s m args below meth c s₁ B hml hv
  obtain ⟨rfl, hsz, hP, hK, hD0, hN⟩ := hv
  have hx := B.exec
  have hb := B.bytes
  have hr := B.returns
  have hts := atoms_spec (ws := wsX0_burstsOfClass) B.pre
  have hown : s.vm.findClass RX0 = some m.cls := findClass_of_methodNamed B.named
  have hlocks := B.notSynchronized
  have iX0 : ∀ w ∈ wsX00, w ∈ wsX0_burstsOfClass := fun _ h => List.mem_cons_of_mem _ (List.mem_append_right _ h)
  subst hsz
  have hD := hD0.self (sz := s.heap.size)
  generalize hAe : va_A (BKw cA aB aR aL aF now told rf lf ff) s.heap.size = A at hD ⊢
  have hA : ∀ q : Nat, s.heap.size ≤ q → A q := fun q h => by rw [← hAe]; exact Or.inr h
  have hS : va_S A s.heap s.heap [] := va_S.rf
  have hP : va_P D vwCl (BKw cA aB aR aL aF now told rf lf ff) s.heap := hP
  obtain ⟨G, hG⟩ : ∃ G, G = (g_X0_burstsOfClass told ff x1) := ⟨_, rfl⟩
  rw [← hG]
  have hl := lv_entry ([.ref aB, .int x1]) (n := 4) (Nat.le_of_ble_eq_true rfl)
  rw [lg_entry_eq]
  generalize (lg_sl ([.ref aB, .int x1]) ++ List.replicate (4 - (lg_sl ([.ref aB, .int x1])).length) Slot.unset).toArray = ls at hl ⊢
  have hl : lv_has ls 4 [(0, .ref aB), (1, .int x1)] := hl
  refine lv_iconst (v := 0) hx hb dX0_burstsOfClass_0 (by decide) ?_
  refine lv_istore_n (lv' := [(2, .int 0), (0, .ref aB), (1, .int x1)]) hx hb dX0_burstsOfClass_1 rfl hl (by decide) rfl (fun ls hl => ?_)
  refine lv_iconst (v := 0) hx hb dX0_burstsOfClass_2 (by decide) ?_
  refine lv_istore_n (lv' := [(3, .int 0), (2, .int 0), (0, .ref aB), (1, .int x1)]) hx hb dX0_burstsOfClass_3 rfl hl (by decide) rfl (fun ls hl => ?_)
  rw [g_X0_burstsOfClass] at hG
  refine (?_ : ∀ (n : Nat) (v2 : Int32) (v3 : Int32) (H : Heap) (locs : List Loc) (ls : Array Slot), ((told).toInt - (v3).toInt).toNat < n → G = g_X0_burstsOfClass_L4 told ff x1 n v2 v3 → va_P D vwCl (BKw cA aB aR aL aF now told rf lf ff) H → va_D A (BKw cA aB aR aL aF now told rf lf ff) → va_S A s.heap H locs → lv_has ls 4 [(0, .ref aB), (1, .int x1), (2, .int v2), (3, .int v3)] → W p l e _ s m _ below meth c H locs _ _ _ (F0 m 4 ls [])) (((told).toInt - ((0 : Int32)).toInt).toNat + 1) 0 0 _ _ _ (Nat.lt_succ_self _) hG hP hD hS (lv_sub hl [2, 3, 1, 0] rfl)
  clear hG hP hD hS hl
  intro n
  induction n with
  | zero => intros; omega
  | succ n4 ih4 =>
    intro v2 v3 H locs ls hm4 hG hP hD hS hl
    refine lv_iload_n hx hb dX0_burstsOfClass_4 rfl (lv_at hl 3 rfl) ?_
    refine lv_aload_n hx hb dX0_burstsOfClass_5 rfl (lv_at hl 0 rfl) ?_
    refine va_get (D := D) (ci := 0) (v := .int told) (C := RX0) (T := TX0) (N := 5) hx hb hts iX0 hown hK hP 0 rfl rfl 1 (by decide) (hts (.fieldLink RX0 15 "LightBursts$Book" "told" "I") (List.mem_of_getElem? (i := 1) rfl)) (fun _ h9 => h9) rfl dX0_burstsOfClass_6 ?_
    refine lv_icmp_ge (tgt := 30) hx hb dX0_burstsOfClass_9 (by decide) (fun c_1 => ?_) (fun c_1 => ?_)
    · refine lv_iload_n hx hb dX0_burstsOfClass_30 rfl (lv_at hl 2 rfl) ?_
      rw [g_X0_burstsOfClass_L4, if_pos c_1] at hG
      rw [hG]
      exact W.iret (v := v2) hx hb hr (fun t ht hW => ⟨⟨_, (), rfl, rfl, by rw [ht]; exact hP, va_K.moved hW.alike hK, hD⟩, hS.F ht⟩) hS.2.2 dX0_burstsOfClass_31
    · refine lv_aload_n hx hb dX0_burstsOfClass_12 rfl (lv_at hl 0 rfl) ?_
      refine lv_iload_n hx hb dX0_burstsOfClass_13 rfl (lv_at hl 3 rfl) ?_
      refine lv_iload_n hx hb dX0_burstsOfClass_14 rfl (lv_at hl 1 rfl) ?_
      refine kI (wr := ([] : va_W)) (W1 := BKw cA aB aR aL aF now told rf lf ff) (wsN := BKw cA aB aR aL aF now told rf lf ff) (rV (As := [.int v3, .int x1]) (rest := []) (W0 := BKw cA aB aR aL aF now told rf lf ff) ⟨hx, hb, hml, hown, hts⟩ (c_X0_isTallied l D cA cZ aB aR aL aF H.size now told rf lf ff v3 x1) (cwV 2 hts gX0_burstsOfClass_X0_isTallied rfl rfl rfl (by decide +kernel) ⟨Nat.le_of_ble_eq_true rfl, Nat.le_of_ble_eq_true rfl⟩) hP hD hK hN ([0, 1, 2, 3] : List Nat) rfl rfl 0 0 rfl rfl rfl hl.1 rfl (Nat.le_of_ble_eq_true rfl) dX0_burstsOfClass_15 ⟨Nat.zero_le _, Nat.zero_le _⟩) hP hD hS hA [0, 1, 2, 3] [] [0, 1, 2, 3] rfl rfl rfl (by decide) rfl rfl (fun H locs hP hD hS => ?_)
      refine lv_if_eq (tgt := 24) hx hb dX0_burstsOfClass_18 (by decide) (fun c_2 => ?_) (fun c_2 => ?_)
      · refine lv_iinc (v := (v3 + 1)) (lv' := [(3, .int (v3 + 1)), (0, .ref aB), (1, .int x1), (2, .int v2)]) hx hb dX0_burstsOfClass_24 hl (k := 3) rfl rfl (by decide) rfl (fun ls hl => ?_)
        refine lv_goto (tgt := 4) hx hb dX0_burstsOfClass_27 (by decide) ?_
        rw [g_X0_burstsOfClass_L4, if_neg c_1, if_pos c_2] at hG
        exact ih4 v2 (v3 + 1) _ _ _ (by exact ms_up c_1 hm4) hG hP hD hS (lv_sub hl [1, 2, 3, 0] rfl)
      · refine lv_iinc (v := (v2 + 1)) (lv' := [(2, .int (v2 + 1)), (0, .ref aB), (1, .int x1), (3, .int v3)]) hx hb dX0_burstsOfClass_21 hl (k := 2) rfl rfl (by decide) rfl (fun ls hl => ?_)
        refine lv_iinc (v := (v3 + 1)) (lv' := [(3, .int (v3 + 1)), (2, .int (v2 + 1)), (0, .ref aB), (1, .int x1)]) hx hb dX0_burstsOfClass_24 hl (k := 3) rfl rfl (by decide) rfl (fun ls hl => ?_)
        refine lv_goto (tgt := 4) hx hb dX0_burstsOfClass_27 (by decide) ?_
        rw [g_X0_burstsOfClass_L4, if_neg c_1, if_neg c_2] at hG
        exact ih4 (v2 + 1) (v3 + 1) _ _ _ (by exact ms_up c_1 hm4) hG hP hD hS (lv_sub hl [2, 3, 1, 0] rfl)

def g_X0_sumOfClass_L5 (told : Int32) (ff : (Nat → Int32)) (x1 : Int32) (x2 : Int32) : Nat → Int32 → Int32 → (Int32)
  | 0, _, _ => 0
  | n + 1, v3, v4 => (if told ≤ v4 then v3 else (if (g_X0_isTallied ff v4 x1) = 0 then (g_X0_sumOfClass_L5 told ff x1 x2 n v3 (v4 + 1)) else (g_X0_sumOfClass_L5 told ff x1 x2 n (v3 + (g_X0_fact ff v4 x2)) (v4 + 1))))
def g_X0_sumOfClass (told : Int32) (ff : (Nat → Int32)) (x1 : Int32) (x2 : Int32) : Int32 := (g_X0_sumOfClass_L5 told ff x1 x2 (((told).toInt - ((0 : Int32)).toInt).toNat + 1) 0 0)
set_option maxHeartbeats 4000000 in
set_option maxRecDepth 100000 in
theorem c_X0_sumOfClass (l : Launch) (D : va_G) (cA cZ : ClassId) (aB : Nat) (aR : Nat) (aL : Nat) (aF : Nat) (szz : Nat) (now : Int32) (told : Int32) (rf : (Nat → Int32)) (lf : (Nat → Int32)) (ff : (Nat → Int32)) (x1 : Int32) (x2 : Int32) : MetI l yX0_sumOfClass wsX0_sumOfClass 3 66 D (tyA cA cZ) [.ref aB, .int x1, .int x2] (BKw cA aB aR aL aF now told rf lf ff) szz (g_X0_sumOfClass told ff x1 x2) (BKw cA aB aR aL aF now told rf lf ff) := by
  refine Met.ofW (cc := cX0_sumOfClass) (maxL := 5) (ret := (some .int)) (by decide) rfl ?_
  intro p e s m args below meth c s₁ B hml hv
  obtain ⟨rfl, hsz, hP, hK, hD0, hN⟩ := hv
  have hx := B.exec
  have hb := B.bytes
  have hr := B.returns
  have hts := atoms_spec (ws := wsX0_sumOfClass) B.pre
  have hown : s.vm.findClass RX0 = some m.cls := findClass_of_methodNamed B.named
  have hlocks := B.notSynchronized
  have iX0 : ∀ w ∈ wsX00, w ∈ wsX0_sumOfClass := fun _ h => List.mem_cons_of_mem _ (List.mem_append_right _ h)
  subst hsz
  have hD := hD0.self (sz := s.heap.size)
  generalize hAe : va_A (BKw cA aB aR aL aF now told rf lf ff) s.heap.size = A at hD ⊢
  have hA : ∀ q : Nat, s.heap.size ≤ q → A q := fun q h => by rw [← hAe]; exact Or.inr h
  have hS : va_S A s.heap s.heap [] := va_S.rf
  have hP : va_P D vwCl (BKw cA aB aR aL aF now told rf lf ff) s.heap := hP
  obtain ⟨G, hG⟩ : ∃ G, G = (g_X0_sumOfClass told ff x1 x2) := ⟨_, rfl⟩
  rw [← hG]
  have hl := lv_entry ([.ref aB, .int x1, .int x2]) (n := 5) (Nat.le_of_ble_eq_true rfl)
  rw [lg_entry_eq]
  generalize (lg_sl ([.ref aB, .int x1, .int x2]) ++ List.replicate (5 - (lg_sl ([.ref aB, .int x1, .int x2])).length) Slot.unset).toArray = ls at hl ⊢
  have hl : lv_has ls 5 [(0, .ref aB), (1, .int x1), (2, .int x2)] := hl
  refine lv_iconst (v := 0) hx hb dX0_sumOfClass_0 (by decide) ?_
  refine lv_istore_n (lv' := [(3, .int 0), (0, .ref aB), (1, .int x1), (2, .int x2)]) hx hb dX0_sumOfClass_1 rfl hl (by decide) rfl (fun ls hl => ?_)
  refine lv_iconst (v := 0) hx hb dX0_sumOfClass_2 (by decide) ?_
  refine lv_istore (lv' := [(4, .int 0), (3, .int 0), (0, .ref aB), (1, .int x1), (2, .int x2)]) hx hb dX0_sumOfClass_3 hl (by decide) rfl (fun ls hl => ?_)
  rw [g_X0_sumOfClass] at hG
  refine (?_ : ∀ (n : Nat) (v3 : Int32) (v4 : Int32) (H : Heap) (locs : List Loc) (ls : Array Slot), ((told).toInt - (v4).toInt).toNat < n → G = g_X0_sumOfClass_L5 told ff x1 x2 n v3 v4 → va_P D vwCl (BKw cA aB aR aL aF now told rf lf ff) H → va_D A (BKw cA aB aR aL aF now told rf lf ff) → va_S A s.heap H locs → lv_has ls 5 [(0, .ref aB), (1, .int x1), (2, .int x2), (3, .int v3), (4, .int v4)] → W p l e _ s m _ below meth c H locs _ _ _ (F0 m 5 ls [])) (((told).toInt - ((0 : Int32)).toInt).toNat + 1) 0 0 _ _ _ (Nat.lt_succ_self _) hG hP hD hS (lv_sub hl [2, 3, 4, 1, 0] rfl)
  clear hG hP hD hS hl
  intro n
  induction n with
  | zero => intros; omega
  | succ n5 ih5 =>
    intro v3 v4 H locs ls hm5 hG hP hD hS hl
    refine lv_iload hx hb dX0_sumOfClass_5 (lv_at hl 4 rfl) ?_
    refine lv_aload_n hx hb dX0_sumOfClass_7 rfl (lv_at hl 0 rfl) ?_
    refine va_get (D := D) (ci := 0) (v := .int told) (C := RX0) (T := TX0) (N := 5) hx hb hts iX0 hown hK hP 0 rfl rfl 1 (by decide) (hts (.fieldLink RX0 15 "LightBursts$Book" "told" "I") (List.mem_of_getElem? (i := 1) rfl)) (fun _ h9 => h9) rfl dX0_sumOfClass_8 ?_
    refine lv_icmp_ge (tgt := 40) hx hb dX0_sumOfClass_11 (by decide) (fun c_1 => ?_) (fun c_1 => ?_)
    · refine lv_iload_n hx hb dX0_sumOfClass_40 rfl (lv_at hl 3 rfl) ?_
      rw [g_X0_sumOfClass_L5, if_pos c_1] at hG
      rw [hG]
      exact W.iret (v := v3) hx hb hr (fun t ht hW => ⟨⟨_, (), rfl, rfl, by rw [ht]; exact hP, va_K.moved hW.alike hK, hD⟩, hS.F ht⟩) hS.2.2 dX0_sumOfClass_41
    · refine lv_aload_n hx hb dX0_sumOfClass_14 rfl (lv_at hl 0 rfl) ?_
      refine lv_iload hx hb dX0_sumOfClass_15 (lv_at hl 4 rfl) ?_
      refine lv_iload_n hx hb dX0_sumOfClass_17 rfl (lv_at hl 1 rfl) ?_
      refine kI (wr := ([] : va_W)) (W1 := BKw cA aB aR aL aF now told rf lf ff) (wsN := BKw cA aB aR aL aF now told rf lf ff) (rV (As := [.int v4, .int x1]) (rest := []) (W0 := BKw cA aB aR aL aF now told rf lf ff) ⟨hx, hb, hml, hown, hts⟩ (c_X0_isTallied l D cA cZ aB aR aL aF H.size now told rf lf ff v4 x1) (cwV 2 hts gX0_sumOfClass_X0_isTallied rfl rfl rfl (by decide +kernel) ⟨Nat.le_of_ble_eq_true rfl, Nat.le_of_ble_eq_true rfl⟩) hP hD hK hN ([0, 1, 2, 3] : List Nat) rfl rfl 0 0 rfl rfl rfl hl.1 rfl (Nat.le_of_ble_eq_true rfl) dX0_sumOfClass_18 ⟨Nat.zero_le _, Nat.zero_le _⟩) hP hD hS hA [0, 1, 2, 3] [] [0, 1, 2, 3] rfl rfl rfl (by decide) rfl rfl (fun H locs hP hD hS => ?_)
      refine lv_if_eq (tgt := 34) hx hb dX0_sumOfClass_21 (by decide) (fun c_2 => ?_) (fun c_2 => ?_)
      · refine lv_iinc (v := (v4 + 1)) (lv' := [(4, .int (v4 + 1)), (0, .ref aB), (1, .int x1), (2, .int x2), (3, .int v3)]) hx hb dX0_sumOfClass_34 hl (k := 4) rfl rfl (by decide) rfl (fun ls hl => ?_)
        refine lv_goto (tgt := 5) hx hb dX0_sumOfClass_37 (by decide) ?_
        rw [g_X0_sumOfClass_L5, if_neg c_1, if_pos c_2] at hG
        exact ih5 v3 (v4 + 1) _ _ _ (by exact ms_up c_1 hm5) hG hP hD hS (lv_sub hl [1, 2, 3, 4, 0] rfl)
      · refine lv_iload_n hx hb dX0_sumOfClass_24 rfl (lv_at hl 3 rfl) ?_
        refine lv_aload_n hx hb dX0_sumOfClass_25 rfl (lv_at hl 0 rfl) ?_
        refine lv_iload hx hb dX0_sumOfClass_26 (lv_at hl 4 rfl) ?_
        refine lv_iload_n hx hb dX0_sumOfClass_28 rfl (lv_at hl 2 rfl) ?_
        refine kI (wr := ([] : va_W)) (W1 := BKw cA aB aR aL aF now told rf lf ff) (wsN := BKw cA aB aR aL aF now told rf lf ff) (rV (As := [.int v4, .int x2]) (rest := [.int v3]) (W0 := BKw cA aB aR aL aF now told rf lf ff) ⟨hx, hb, hml, hown, hts⟩ (c_X0_fact l D cA cZ aB aR aL aF H.size now told rf lf ff v4 x2) (cwV 2 hts gX0_sumOfClass_X0_fact rfl rfl rfl (by decide +kernel) ⟨Nat.le_of_ble_eq_true rfl, Nat.le_of_ble_eq_true rfl⟩) hP hD hK hN ([0, 1, 2, 3] : List Nat) rfl rfl 0 0 rfl rfl rfl hl.1 rfl (Nat.le_of_ble_eq_true rfl) dX0_sumOfClass_29 ⟨Nat.zero_le _, Nat.zero_le _⟩) hP hD hS hA [0, 1, 2, 3] [] [0, 1, 2, 3] rfl rfl rfl (by decide) rfl rfl (fun H locs hP hD hS => ?_)
        refine lv_iadd hx hb dX0_sumOfClass_32 ?_
        refine lv_istore_n (lv' := [(3, .int (v3 + (g_X0_fact ff v4 x2))), (0, .ref aB), (1, .int x1), (2, .int x2), (4, .int v4)]) hx hb dX0_sumOfClass_33 rfl hl (by decide) rfl (fun ls hl => ?_)
        refine lv_iinc (v := (v4 + 1)) (lv' := [(4, .int (v4 + 1)), (3, .int (v3 + (g_X0_fact ff v4 x2))), (0, .ref aB), (1, .int x1), (2, .int x2)]) hx hb dX0_sumOfClass_34 hl (k := 4) rfl rfl (by decide) rfl (fun ls hl => ?_)
        refine lv_goto (tgt := 5) hx hb dX0_sumOfClass_37 (by decide) ?_
        rw [g_X0_sumOfClass_L5, if_neg c_1, if_neg c_2] at hG
        exact ih5 (v3 + (g_X0_fact ff v4 x2)) (v4 + 1) _ _ _ (by exact ms_up c_1 hm5) hG hP hD hS (lv_sub hl [2, 3, 4, 1, 0] rfl)

def g_X0_lostOfClass_L4 (told : Int32) (ff : (Nat → Int32)) (x1 : Int32) : Nat → Int32 → Int32 → (Int32)
  | 0, _, _ => 0
  | n + 1, v2, v3 => (if told ≤ v3 then v2 else (if (g_X0_fact ff v3 2) = x1 then (if (g_X0_fact ff v3 6) = 3 then (g_X0_lostOfClass_L4 told ff x1 n (v2 + 1) (v3 + 1)) else (g_X0_lostOfClass_L4 told ff x1 n v2 (v3 + 1))) else (g_X0_lostOfClass_L4 told ff x1 n v2 (v3 + 1))))
def g_X0_lostOfClass (told : Int32) (ff : (Nat → Int32)) (x1 : Int32) : Int32 := (g_X0_lostOfClass_L4 told ff x1 (((told).toInt - ((0 : Int32)).toInt).toNat + 1) 0 0)
set_option maxHeartbeats 4000000 in
set_option maxRecDepth 100000 in
theorem c_X0_lostOfClass (l : Launch) (D : va_G) (cA cZ : ClassId) (aB : Nat) (aR : Nat) (aL : Nat) (aF : Nat) (szz : Nat) (now : Int32) (told : Int32) (rf : (Nat → Int32)) (lf : (Nat → Int32)) (ff : (Nat → Int32)) (x1 : Int32) : MetI l yX0_lostOfClass wsX0_lostOfClass 2 44 D (tyA cA cZ) [.ref aB, .int x1] (BKw cA aB aR aL aF now told rf lf ff) szz (g_X0_lostOfClass told ff x1) (BKw cA aB aR aL aF now told rf lf ff) := by
  refine Met.ofW (cc := cX0_lostOfClass) (maxL := 4) (ret := (some .int)) (by decide) rfl ?_
  intro p e s m args below meth c s₁ B hml hv
  obtain ⟨rfl, hsz, hP, hK, hD0, hN⟩ := hv
  have hx := B.exec
  have hb := B.bytes
  have hr := B.returns
  have hts := atoms_spec (ws := wsX0_lostOfClass) B.pre
  have hown : s.vm.findClass RX0 = some m.cls := findClass_of_methodNamed B.named
  have hlocks := B.notSynchronized
  have iX0 : ∀ w ∈ wsX00, w ∈ wsX0_lostOfClass := fun _ h => List.mem_cons_of_mem _ (List.mem_append_right _ h)
  subst hsz
  have hD := hD0.self (sz := s.heap.size)
  generalize hAe : va_A (BKw cA aB aR aL aF now told rf lf ff) s.heap.size = A at hD ⊢
  have hA : ∀ q : Nat, s.heap.size ≤ q → A q := fun q h => by rw [← hAe]; exact Or.inr h
  have hS : va_S A s.heap s.heap [] := va_S.rf
  have hP : va_P D vwCl (BKw cA aB aR aL aF now told rf lf ff) s.heap := hP
  obtain ⟨G, hG⟩ : ∃ G, G = (g_X0_lostOfClass told ff x1) := ⟨_, rfl⟩
  rw [← hG]
  have hl := lv_entry ([.ref aB, .int x1]) (n := 4) (Nat.le_of_ble_eq_true rfl)
  rw [lg_entry_eq]
  generalize (lg_sl ([.ref aB, .int x1]) ++ List.replicate (4 - (lg_sl ([.ref aB, .int x1])).length) Slot.unset).toArray = ls at hl ⊢
  have hl : lv_has ls 4 [(0, .ref aB), (1, .int x1)] := hl
  refine lv_iconst (v := 0) hx hb dX0_lostOfClass_0 (by decide) ?_
  refine lv_istore_n (lv' := [(2, .int 0), (0, .ref aB), (1, .int x1)]) hx hb dX0_lostOfClass_1 rfl hl (by decide) rfl (fun ls hl => ?_)
  refine lv_iconst (v := 0) hx hb dX0_lostOfClass_2 (by decide) ?_
  refine lv_istore_n (lv' := [(3, .int 0), (2, .int 0), (0, .ref aB), (1, .int x1)]) hx hb dX0_lostOfClass_3 rfl hl (by decide) rfl (fun ls hl => ?_)
  rw [g_X0_lostOfClass] at hG
  refine (?_ : ∀ (n : Nat) (v2 : Int32) (v3 : Int32) (H : Heap) (locs : List Loc) (ls : Array Slot), ((told).toInt - (v3).toInt).toNat < n → G = g_X0_lostOfClass_L4 told ff x1 n v2 v3 → va_P D vwCl (BKw cA aB aR aL aF now told rf lf ff) H → va_D A (BKw cA aB aR aL aF now told rf lf ff) → va_S A s.heap H locs → lv_has ls 4 [(0, .ref aB), (1, .int x1), (2, .int v2), (3, .int v3)] → W p l e _ s m _ below meth c H locs _ _ _ (F0 m 4 ls [])) (((told).toInt - ((0 : Int32)).toInt).toNat + 1) 0 0 _ _ _ (Nat.lt_succ_self _) hG hP hD hS (lv_sub hl [2, 3, 1, 0] rfl)
  clear hG hP hD hS hl
  intro n
  induction n with
  | zero => intros; omega
  | succ n4 ih4 =>
    intro v2 v3 H locs ls hm4 hG hP hD hS hl
    refine lv_iload_n hx hb dX0_lostOfClass_4 rfl (lv_at hl 3 rfl) ?_
    refine lv_aload_n hx hb dX0_lostOfClass_5 rfl (lv_at hl 0 rfl) ?_
    refine va_get (D := D) (ci := 0) (v := .int told) (C := RX0) (T := TX0) (N := 5) hx hb hts iX0 hown hK hP 0 rfl rfl 1 (by decide) (hts (.fieldLink RX0 15 "LightBursts$Book" "told" "I") (List.mem_of_getElem? (i := 1) rfl)) (fun _ h9 => h9) rfl dX0_lostOfClass_6 ?_
    refine lv_icmp_ge (tgt := 42) hx hb dX0_lostOfClass_9 (by decide) (fun c_1 => ?_) (fun c_1 => ?_)
    · refine lv_iload_n hx hb dX0_lostOfClass_42 rfl (lv_at hl 2 rfl) ?_
      rw [g_X0_lostOfClass_L4, if_pos c_1] at hG
      rw [hG]
      exact W.iret (v := v2) hx hb hr (fun t ht hW => ⟨⟨_, (), rfl, rfl, by rw [ht]; exact hP, va_K.moved hW.alike hK, hD⟩, hS.F ht⟩) hS.2.2 dX0_lostOfClass_43
    · refine lv_aload_n hx hb dX0_lostOfClass_12 rfl (lv_at hl 0 rfl) ?_
      refine lv_iload_n hx hb dX0_lostOfClass_13 rfl (lv_at hl 3 rfl) ?_
      refine lv_iconst (v := 2) hx hb dX0_lostOfClass_14 (by decide) ?_
      refine kI (wr := ([] : va_W)) (W1 := BKw cA aB aR aL aF now told rf lf ff) (wsN := BKw cA aB aR aL aF now told rf lf ff) (rV (As := [.int v3, .int 2]) (rest := []) (W0 := BKw cA aB aR aL aF now told rf lf ff) ⟨hx, hb, hml, hown, hts⟩ (c_X0_fact l D cA cZ aB aR aL aF H.size now told rf lf ff v3 2) (cwV 2 hts gX0_lostOfClass_X0_fact rfl rfl rfl (by decide +kernel) ⟨Nat.le_of_ble_eq_true rfl, Nat.le_of_ble_eq_true rfl⟩) hP hD hK hN ([0, 1, 2, 3] : List Nat) rfl rfl 0 0 rfl rfl rfl hl.1 rfl (Nat.le_of_ble_eq_true rfl) dX0_lostOfClass_15 ⟨Nat.zero_le _, Nat.zero_le _⟩) hP hD hS hA [0, 1, 2, 3] [] [0, 1, 2, 3] rfl rfl rfl (by decide) rfl rfl (fun H locs hP hD hS => ?_)
      refine lv_iload_n hx hb dX0_lostOfClass_18 rfl (lv_at hl 1 rfl) ?_
      refine lv_icmp_ne (tgt := 36) hx hb dX0_lostOfClass_19 (by decide) (fun c_2 => ?_) (fun c_2 => ?_)
      · refine lv_iinc (v := (v3 + 1)) (lv' := [(3, .int (v3 + 1)), (0, .ref aB), (1, .int x1), (2, .int v2)]) hx hb dX0_lostOfClass_36 hl (k := 3) rfl rfl (by decide) rfl (fun ls hl => ?_)
        refine lv_goto (tgt := 4) hx hb dX0_lostOfClass_39 (by decide) ?_
        rw [g_X0_lostOfClass_L4, if_neg c_1, if_neg c_2] at hG
        exact ih4 v2 (v3 + 1) _ _ _ (by exact ms_up c_1 hm4) hG hP hD hS (lv_sub hl [1, 2, 3, 0] rfl)
      · refine lv_aload_n hx hb dX0_lostOfClass_22 rfl (lv_at hl 0 rfl) ?_
        refine lv_iload_n hx hb dX0_lostOfClass_23 rfl (lv_at hl 3 rfl) ?_
        refine lv_bipush (v := 6) hx hb dX0_lostOfClass_24 (by decide) ?_
        refine kI (wr := ([] : va_W)) (W1 := BKw cA aB aR aL aF now told rf lf ff) (wsN := BKw cA aB aR aL aF now told rf lf ff) (rV (As := [.int v3, .int 6]) (rest := []) (W0 := BKw cA aB aR aL aF now told rf lf ff) ⟨hx, hb, hml, hown, hts⟩ (c_X0_fact l D cA cZ aB aR aL aF H.size now told rf lf ff v3 6) (cwV 2 hts gX0_lostOfClass_X0_fact rfl rfl rfl (by decide +kernel) ⟨Nat.le_of_ble_eq_true rfl, Nat.le_of_ble_eq_true rfl⟩) hP hD hK hN ([0, 1, 2, 3] : List Nat) rfl rfl 0 0 rfl rfl rfl hl.1 rfl (Nat.le_of_ble_eq_true rfl) dX0_lostOfClass_26 ⟨Nat.zero_le _, Nat.zero_le _⟩) hP hD hS hA [0, 1, 2, 3] [] [0, 1, 2, 3] rfl rfl rfl (by decide) rfl rfl (fun H locs hP hD hS => ?_)
        refine lv_iconst (v := 3) hx hb dX0_lostOfClass_29 (by decide) ?_
        refine lv_icmp_ne (tgt := 36) hx hb dX0_lostOfClass_30 (by decide) (fun c_3 => ?_) (fun c_3 => ?_)
        · refine lv_iinc (v := (v3 + 1)) (lv' := [(3, .int (v3 + 1)), (0, .ref aB), (1, .int x1), (2, .int v2)]) hx hb dX0_lostOfClass_36 hl (k := 3) rfl rfl (by decide) rfl (fun ls hl => ?_)
          refine lv_goto (tgt := 4) hx hb dX0_lostOfClass_39 (by decide) ?_
          rw [g_X0_lostOfClass_L4, if_neg c_1, if_pos c_2, if_neg c_3] at hG
          exact ih4 v2 (v3 + 1) _ _ _ (by exact ms_up c_1 hm4) hG hP hD hS (lv_sub hl [1, 2, 3, 0] rfl)
        · refine lv_iinc (v := (v2 + 1)) (lv' := [(2, .int (v2 + 1)), (0, .ref aB), (1, .int x1), (3, .int v3)]) hx hb dX0_lostOfClass_33 hl (k := 2) rfl rfl (by decide) rfl (fun ls hl => ?_)
          refine lv_iinc (v := (v3 + 1)) (lv' := [(3, .int (v3 + 1)), (2, .int (v2 + 1)), (0, .ref aB), (1, .int x1)]) hx hb dX0_lostOfClass_36 hl (k := 3) rfl rfl (by decide) rfl (fun ls hl => ?_)
          refine lv_goto (tgt := 4) hx hb dX0_lostOfClass_39 (by decide) ?_
          rw [g_X0_lostOfClass_L4, if_neg c_1, if_pos c_2, if_pos c_3] at hG
          exact ih4 (v2 + 1) (v3 + 1) _ _ _ (by exact ms_up c_1 hm4) hG hP hD hS (lv_sub hl [2, 3, 1, 0] rfl)

def g_X0_burstsWhere_L5 (told : Int32) (ff : (Nat → Int32)) (x1 : Int32) (x2 : Int32) : Nat → Int32 → Int32 → (Int32)
  | 0, _, _ => 0
  | n + 1, v3, v4 => (if told ≤ v4 then v3 else (if (g_X0_fact ff v4 x1) = x2 then (g_X0_burstsWhere_L5 told ff x1 x2 n (v3 + 1) (v4 + 1)) else (g_X0_burstsWhere_L5 told ff x1 x2 n v3 (v4 + 1))))
def g_X0_burstsWhere (told : Int32) (ff : (Nat → Int32)) (x1 : Int32) (x2 : Int32) : Int32 := (g_X0_burstsWhere_L5 told ff x1 x2 (((told).toInt - ((0 : Int32)).toInt).toNat + 1) 0 0)
set_option maxHeartbeats 4000000 in
set_option maxRecDepth 100000 in
theorem c_X0_burstsWhere (l : Launch) (D : va_G) (cA cZ : ClassId) (aB : Nat) (aR : Nat) (aL : Nat) (aF : Nat) (szz : Nat) (now : Int32) (told : Int32) (rf : (Nat → Int32)) (lf : (Nat → Int32)) (ff : (Nat → Int32)) (x1 : Int32) (x2 : Int32) : MetI l yX0_burstsWhere wsX0_burstsWhere 2 44 D (tyA cA cZ) [.ref aB, .int x1, .int x2] (BKw cA aB aR aL aF now told rf lf ff) szz (g_X0_burstsWhere told ff x1 x2) (BKw cA aB aR aL aF now told rf lf ff) := by
  refine Met.ofW (cc := cX0_burstsWhere) (maxL := 5) (ret := (some .int)) (by decide) rfl ?_
  intro p e s m args below meth c s₁ B hml hv
  obtain ⟨rfl, hsz, hP, hK, hD0, hN⟩ := hv
  have hx := B.exec
  have hb := B.bytes
  have hr := B.returns
  have hts := atoms_spec (ws := wsX0_burstsWhere) B.pre
  have hown : s.vm.findClass RX0 = some m.cls := findClass_of_methodNamed B.named
  have hlocks := B.notSynchronized
  have iX0 : ∀ w ∈ wsX00, w ∈ wsX0_burstsWhere := fun _ h => List.mem_cons_of_mem _ (List.mem_append_right _ h)
  subst hsz
  have hD := hD0.self (sz := s.heap.size)
  generalize hAe : va_A (BKw cA aB aR aL aF now told rf lf ff) s.heap.size = A at hD ⊢
  have hA : ∀ q : Nat, s.heap.size ≤ q → A q := fun q h => by rw [← hAe]; exact Or.inr h
  have hS : va_S A s.heap s.heap [] := va_S.rf
  have hP : va_P D vwCl (BKw cA aB aR aL aF now told rf lf ff) s.heap := hP
  obtain ⟨G, hG⟩ : ∃ G, G = (g_X0_burstsWhere told ff x1 x2) := ⟨_, rfl⟩
  rw [← hG]
  have hl := lv_entry ([.ref aB, .int x1, .int x2]) (n := 5) (Nat.le_of_ble_eq_true rfl)
  rw [lg_entry_eq]
  generalize (lg_sl ([.ref aB, .int x1, .int x2]) ++ List.replicate (5 - (lg_sl ([.ref aB, .int x1, .int x2])).length) Slot.unset).toArray = ls at hl ⊢
  have hl : lv_has ls 5 [(0, .ref aB), (1, .int x1), (2, .int x2)] := hl
  refine lv_iconst (v := 0) hx hb dX0_burstsWhere_0 (by decide) ?_
  refine lv_istore_n (lv' := [(3, .int 0), (0, .ref aB), (1, .int x1), (2, .int x2)]) hx hb dX0_burstsWhere_1 rfl hl (by decide) rfl (fun ls hl => ?_)
  refine lv_iconst (v := 0) hx hb dX0_burstsWhere_2 (by decide) ?_
  refine lv_istore (lv' := [(4, .int 0), (3, .int 0), (0, .ref aB), (1, .int x1), (2, .int x2)]) hx hb dX0_burstsWhere_3 hl (by decide) rfl (fun ls hl => ?_)
  rw [g_X0_burstsWhere] at hG
  refine (?_ : ∀ (n : Nat) (v3 : Int32) (v4 : Int32) (H : Heap) (locs : List Loc) (ls : Array Slot), ((told).toInt - (v4).toInt).toNat < n → G = g_X0_burstsWhere_L5 told ff x1 x2 n v3 v4 → va_P D vwCl (BKw cA aB aR aL aF now told rf lf ff) H → va_D A (BKw cA aB aR aL aF now told rf lf ff) → va_S A s.heap H locs → lv_has ls 5 [(0, .ref aB), (1, .int x1), (2, .int x2), (3, .int v3), (4, .int v4)] → W p l e _ s m _ below meth c H locs _ _ _ (F0 m 5 ls [])) (((told).toInt - ((0 : Int32)).toInt).toNat + 1) 0 0 _ _ _ (Nat.lt_succ_self _) hG hP hD hS (lv_sub hl [2, 3, 4, 1, 0] rfl)
  clear hG hP hD hS hl
  intro n
  induction n with
  | zero => intros; omega
  | succ n5 ih5 =>
    intro v3 v4 H locs ls hm5 hG hP hD hS hl
    refine lv_iload hx hb dX0_burstsWhere_5 (lv_at hl 4 rfl) ?_
    refine lv_aload_n hx hb dX0_burstsWhere_7 rfl (lv_at hl 0 rfl) ?_
    refine va_get (D := D) (ci := 0) (v := .int told) (C := RX0) (T := TX0) (N := 5) hx hb hts iX0 hown hK hP 0 rfl rfl 1 (by decide) (hts (.fieldLink RX0 15 "LightBursts$Book" "told" "I") (List.mem_of_getElem? (i := 1) rfl)) (fun _ h9 => h9) rfl dX0_burstsWhere_8 ?_
    refine lv_icmp_ge (tgt := 34) hx hb dX0_burstsWhere_11 (by decide) (fun c_1 => ?_) (fun c_1 => ?_)
    · refine lv_iload_n hx hb dX0_burstsWhere_34 rfl (lv_at hl 3 rfl) ?_
      rw [g_X0_burstsWhere_L5, if_pos c_1] at hG
      rw [hG]
      exact W.iret (v := v3) hx hb hr (fun t ht hW => ⟨⟨_, (), rfl, rfl, by rw [ht]; exact hP, va_K.moved hW.alike hK, hD⟩, hS.F ht⟩) hS.2.2 dX0_burstsWhere_35
    · refine lv_aload_n hx hb dX0_burstsWhere_14 rfl (lv_at hl 0 rfl) ?_
      refine lv_iload hx hb dX0_burstsWhere_15 (lv_at hl 4 rfl) ?_
      refine lv_iload_n hx hb dX0_burstsWhere_17 rfl (lv_at hl 1 rfl) ?_
      refine kI (wr := ([] : va_W)) (W1 := BKw cA aB aR aL aF now told rf lf ff) (wsN := BKw cA aB aR aL aF now told rf lf ff) (rV (As := [.int v4, .int x1]) (rest := []) (W0 := BKw cA aB aR aL aF now told rf lf ff) ⟨hx, hb, hml, hown, hts⟩ (c_X0_fact l D cA cZ aB aR aL aF H.size now told rf lf ff v4 x1) (cwV 2 hts gX0_burstsWhere_X0_fact rfl rfl rfl (by decide +kernel) ⟨Nat.le_of_ble_eq_true rfl, Nat.le_of_ble_eq_true rfl⟩) hP hD hK hN ([0, 1, 2, 3] : List Nat) rfl rfl 0 0 rfl rfl rfl hl.1 rfl (Nat.le_of_ble_eq_true rfl) dX0_burstsWhere_18 ⟨Nat.zero_le _, Nat.zero_le _⟩) hP hD hS hA [0, 1, 2, 3] [] [0, 1, 2, 3] rfl rfl rfl (by decide) rfl rfl (fun H locs hP hD hS => ?_)
      refine lv_iload_n hx hb dX0_burstsWhere_21 rfl (lv_at hl 2 rfl) ?_
      refine lv_icmp_ne (tgt := 28) hx hb dX0_burstsWhere_22 (by decide) (fun c_2 => ?_) (fun c_2 => ?_)
      · refine lv_iinc (v := (v4 + 1)) (lv' := [(4, .int (v4 + 1)), (0, .ref aB), (1, .int x1), (2, .int x2), (3, .int v3)]) hx hb dX0_burstsWhere_28 hl (k := 4) rfl rfl (by decide) rfl (fun ls hl => ?_)
        refine lv_goto (tgt := 5) hx hb dX0_burstsWhere_31 (by decide) ?_
        rw [g_X0_burstsWhere_L5, if_neg c_1, if_neg c_2] at hG
        exact ih5 v3 (v4 + 1) _ _ _ (by exact ms_up c_1 hm5) hG hP hD hS (lv_sub hl [1, 2, 3, 4, 0] rfl)
      · refine lv_iinc (v := (v3 + 1)) (lv' := [(3, .int (v3 + 1)), (0, .ref aB), (1, .int x1), (2, .int x2), (4, .int v4)]) hx hb dX0_burstsWhere_25 hl (k := 3) rfl rfl (by decide) rfl (fun ls hl => ?_)
        refine lv_iinc (v := (v4 + 1)) (lv' := [(4, .int (v4 + 1)), (3, .int (v3 + 1)), (0, .ref aB), (1, .int x1), (2, .int x2)]) hx hb dX0_burstsWhere_28 hl (k := 4) rfl rfl (by decide) rfl (fun ls hl => ?_)
        refine lv_goto (tgt := 5) hx hb dX0_burstsWhere_31 (by decide) ?_
        rw [g_X0_burstsWhere_L5, if_neg c_1, if_pos c_2] at hG
        exact ih5 (v3 + 1) (v4 + 1) _ _ _ (by exact ms_up c_1 hm5) hG hP hD hS (lv_sub hl [2, 3, 4, 1, 0] rfl)

def g_X0_burstsOfFate (told : Int32) (ff : (Nat → Int32)) (x1 : Int32) : Int32 := (g_X0_burstsWhere told ff 6 x1)
set_option maxHeartbeats 4000000 in
set_option maxRecDepth 100000 in
theorem c_X0_burstsOfFate (l : Launch) (D : va_G) (cA cZ : ClassId) (aB : Nat) (aR : Nat) (aL : Nat) (aF : Nat) (szz : Nat) (now : Int32) (told : Int32) (rf : (Nat → Int32)) (lf : (Nat → Int32)) (ff : (Nat → Int32)) (x1 : Int32) : MetI l yX0_burstsOfFate wsX0_burstsOfFate 3 68 D (tyA cA cZ) [.ref aB, .int x1] (BKw cA aB aR aL aF now told rf lf ff) szz (g_X0_burstsOfFate told ff x1) (BKw cA aB aR aL aF now told rf lf ff) := by
  refine Met.ofW (cc := cX0_burstsOfFate) (maxL := 2) (ret := (some .int)) (by decide) rfl ?_
  intro p e s m args below meth c s₁ B hml hv
  obtain ⟨rfl, hsz, hP, hK, hD0, hN⟩ := hv
  have hx := B.exec
  have hb := B.bytes
  have hr := B.returns
  have hts := atoms_spec (ws := wsX0_burstsOfFate) B.pre
  have hown : s.vm.findClass RX0 = some m.cls := findClass_of_methodNamed B.named
  have hlocks := B.notSynchronized
  have iX0 : ∀ w ∈ wsX00, w ∈ wsX0_burstsOfFate := fun _ h => List.mem_cons_of_mem _ (List.mem_append_right _ h)
  subst hsz
  have hD := hD0.self (sz := s.heap.size)
  generalize hAe : va_A (BKw cA aB aR aL aF now told rf lf ff) s.heap.size = A at hD ⊢
  have hA : ∀ q : Nat, s.heap.size ≤ q → A q := fun q h => by rw [← hAe]; exact Or.inr h
  have hS : va_S A s.heap s.heap [] := va_S.rf
  have hP : va_P D vwCl (BKw cA aB aR aL aF now told rf lf ff) s.heap := hP
  obtain ⟨G, hG⟩ : ∃ G, G = (g_X0_burstsOfFate told ff x1) := ⟨_, rfl⟩
  rw [← hG]
  have hl := lv_entry ([.ref aB, .int x1]) (n := 2) (Nat.le_of_ble_eq_true rfl)
  rw [lg_entry_eq]
  generalize (lg_sl ([.ref aB, .int x1]) ++ List.replicate (2 - (lg_sl ([.ref aB, .int x1])).length) Slot.unset).toArray = ls at hl ⊢
  have hl : lv_has ls 2 [(0, .ref aB), (1, .int x1)] := hl
  refine lv_aload_n hx hb dX0_burstsOfFate_0 rfl (lv_at hl 0 rfl) ?_
  refine lv_bipush (v := 6) hx hb dX0_burstsOfFate_1 (by decide) ?_
  refine lv_iload_n hx hb dX0_burstsOfFate_3 rfl (lv_at hl 1 rfl) ?_
  refine kI (wr := ([] : va_W)) (W1 := BKw cA aB aR aL aF now told rf lf ff) (wsN := BKw cA aB aR aL aF now told rf lf ff) (rV (As := [.int 6, .int x1]) (rest := []) (W0 := BKw cA aB aR aL aF now told rf lf ff) ⟨hx, hb, hml, hown, hts⟩ (c_X0_burstsWhere l D cA cZ aB aR aL aF s.heap.size now told rf lf ff 6 x1) (cwV 2 hts gX0_burstsOfFate_X0_burstsWhere rfl rfl rfl (by decide +kernel) ⟨Nat.le_of_ble_eq_true rfl, Nat.le_of_ble_eq_true rfl⟩) hP hD hK hN ([0, 1, 2, 3] : List Nat) rfl rfl 0 0 rfl rfl rfl hl.1 rfl (Nat.le_of_ble_eq_true rfl) dX0_burstsOfFate_4 ⟨Nat.zero_le _, Nat.zero_le _⟩) hP hD hS hA [0, 1, 2, 3] [] [0, 1, 2, 3] rfl rfl rfl (by decide) rfl rfl (fun H locs hP hD hS => ?_)
  rw [g_X0_burstsOfFate] at hG
  rw [hG]
  exact W.iret (v := (g_X0_burstsWhere told ff 6 x1)) hx hb hr (fun t ht hW => ⟨⟨_, (), rfl, rfl, by rw [ht]; exact hP, va_K.moved hW.alike hK, hD⟩, hS.F ht⟩) hS.2.2 dX0_burstsOfFate_7

def g_X0_burstsWith (told : Int32) (ff : (Nat → Int32)) (x1 : Int32) : Int32 := (told - (g_X0_burstsWhere told ff x1 (-6)))
set_option maxHeartbeats 4000000 in
set_option maxRecDepth 100000 in
theorem c_X0_burstsWith (l : Launch) (D : va_G) (cA cZ : ClassId) (aB : Nat) (aR : Nat) (aL : Nat) (aF : Nat) (szz : Nat) (now : Int32) (told : Int32) (rf : (Nat → Int32)) (lf : (Nat → Int32)) (ff : (Nat → Int32)) (x1 : Int32) : MetI l yX0_burstsWith wsX0_burstsWith 3 68 D (tyA cA cZ) [.ref aB, .int x1] (BKw cA aB aR aL aF now told rf lf ff) szz (g_X0_burstsWith told ff x1) (BKw cA aB aR aL aF now told rf lf ff) := by
  refine Met.ofW (cc := cX0_burstsWith) (maxL := 2) (ret := (some .int)) (by decide) rfl ?_
  intro p e s m args below meth c s₁ B hml hv
  obtain ⟨rfl, hsz, hP, hK, hD0, hN⟩ := hv
  have hx := B.exec
  have hb := B.bytes
  have hr := B.returns
  have hts := atoms_spec (ws := wsX0_burstsWith) B.pre
  have hown : s.vm.findClass RX0 = some m.cls := findClass_of_methodNamed B.named
  have hlocks := B.notSynchronized
  have iX0 : ∀ w ∈ wsX00, w ∈ wsX0_burstsWith := fun _ h => List.mem_cons_of_mem _ (List.mem_append_right _ h)
  subst hsz
  have hD := hD0.self (sz := s.heap.size)
  generalize hAe : va_A (BKw cA aB aR aL aF now told rf lf ff) s.heap.size = A at hD ⊢
  have hA : ∀ q : Nat, s.heap.size ≤ q → A q := fun q h => by rw [← hAe]; exact Or.inr h
  have hS : va_S A s.heap s.heap [] := va_S.rf
  have hP : va_P D vwCl (BKw cA aB aR aL aF now told rf lf ff) s.heap := hP
  obtain ⟨G, hG⟩ : ∃ G, G = (g_X0_burstsWith told ff x1) := ⟨_, rfl⟩
  rw [← hG]
  have hl := lv_entry ([.ref aB, .int x1]) (n := 2) (Nat.le_of_ble_eq_true rfl)
  rw [lg_entry_eq]
  generalize (lg_sl ([.ref aB, .int x1]) ++ List.replicate (2 - (lg_sl ([.ref aB, .int x1])).length) Slot.unset).toArray = ls at hl ⊢
  have hl : lv_has ls 2 [(0, .ref aB), (1, .int x1)] := hl
  refine lv_aload_n hx hb dX0_burstsWith_0 rfl (lv_at hl 0 rfl) ?_
  refine va_get (D := D) (ci := 0) (v := .int told) (C := RX0) (T := TX0) (N := 5) hx hb hts iX0 hown hK hP 0 rfl rfl 1 (by decide) (hts (.fieldLink RX0 15 "LightBursts$Book" "told" "I") (List.mem_of_getElem? (i := 1) rfl)) (fun _ h9 => h9) rfl dX0_burstsWith_1 ?_
  refine lv_aload_n hx hb dX0_burstsWith_4 rfl (lv_at hl 0 rfl) ?_
  refine lv_iload_n hx hb dX0_burstsWith_5 rfl (lv_at hl 1 rfl) ?_
  refine lv_bipush (v := (-6)) hx hb dX0_burstsWith_6 (by decide) ?_
  refine kI (wr := ([] : va_W)) (W1 := BKw cA aB aR aL aF now told rf lf ff) (wsN := BKw cA aB aR aL aF now told rf lf ff) (rV (As := [.int x1, .int (-6)]) (rest := [.int told]) (W0 := BKw cA aB aR aL aF now told rf lf ff) ⟨hx, hb, hml, hown, hts⟩ (c_X0_burstsWhere l D cA cZ aB aR aL aF s.heap.size now told rf lf ff x1 (-6)) (cwV 2 hts gX0_burstsWith_X0_burstsWhere rfl rfl rfl (by decide +kernel) ⟨Nat.le_of_ble_eq_true rfl, Nat.le_of_ble_eq_true rfl⟩) hP hD hK hN ([0, 1, 2, 3] : List Nat) rfl rfl 0 0 rfl rfl rfl hl.1 rfl (Nat.le_of_ble_eq_true rfl) dX0_burstsWith_8 ⟨Nat.zero_le _, Nat.zero_le _⟩) hP hD hS hA [0, 1, 2, 3] [] [0, 1, 2, 3] rfl rfl rfl (by decide) rfl rfl (fun H locs hP hD hS => ?_)
  refine lv_isub hx hb dX0_burstsWith_11 ?_
  rw [g_X0_burstsWith] at hG
  rw [hG]
  exact W.iret (v := (told - (g_X0_burstsWhere told ff x1 (-6)))) hx hb hr (fun t ht hW => ⟨⟨_, (), rfl, rfl, by rw [ht]; exact hP, va_K.moved hW.alike hK, hD⟩, hS.F ht⟩) hS.2.2 dX0_burstsWith_12
end
