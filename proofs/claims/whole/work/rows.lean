section
-- ===== PART A: goes FIRST, ahead of the names: the tables' words, and 'selects' of the private methods out of them =====
/-- a private method of a class that the tables say can be made, by its rows of tables_1 -/
def lw_okq (q : MethodName × Nat) : Prop := (q.1.cls ≠ "java/lang/invoke/MethodHandle" ∧ q.1.cls ≠ "java/lang/invoke/VarHandle") ∧ Cond.instantiable q.1.cls q.2 ∈ tables_1 ∧ Cond.privateMethod q.1 ∈ tables_1 ∧ Cond.instanceMethod q.1 ∈ tables_1
theorem lw_p0 : lw_okq (⟨"ShotBook$Story", "addScene", "(II)I"⟩, 12) := ⟨⟨by decide +kernel, by decide +kernel⟩, List.mem_of_getElem? (i := 20) (by decide +kernel), List.mem_of_getElem? (i := 166) (by decide +kernel), List.mem_of_getElem? (i := 167) (by decide +kernel)⟩
theorem lw_p1 : lw_okq (⟨"ShotBook$Story", "isScene", "(I)Z"⟩, 12) := ⟨⟨by decide +kernel, by decide +kernel⟩, List.mem_of_getElem? (i := 20) (by decide +kernel), List.mem_of_getElem? (i := 174) (by decide +kernel), List.mem_of_getElem? (i := 175) (by decide +kernel)⟩
theorem lw_p2 : lw_okq (⟨"ShotBook$Story", "addThing", "(III)I"⟩, 12) := ⟨⟨by decide +kernel, by decide +kernel⟩, List.mem_of_getElem? (i := 20) (by decide +kernel), List.mem_of_getElem? (i := 185) (by decide +kernel), List.mem_of_getElem? (i := 186) (by decide +kernel)⟩
theorem lw_p3 : lw_okq (⟨"ShotBook$Story", "isThing", "(I)Z"⟩, 12) := ⟨⟨by decide +kernel, by decide +kernel⟩, List.mem_of_getElem? (i := 20) (by decide +kernel), List.mem_of_getElem? (i := 193) (by decide +kernel), List.mem_of_getElem? (i := 194) (by decide +kernel)⟩
theorem lw_p4 : lw_okq (⟨"ShotBook$Story", "countTakesOf", "(I)I"⟩, 12) := ⟨⟨by decide +kernel, by decide +kernel⟩, List.mem_of_getElem? (i := 20) (by decide +kernel), List.mem_of_getElem? (i := 201) (by decide +kernel), List.mem_of_getElem? (i := 202) (by decide +kernel)⟩
theorem lw_p5 : lw_okq (⟨"ShotBook$Story", "addTake", "(II)I"⟩, 12) := ⟨⟨by decide +kernel, by decide +kernel⟩, List.mem_of_getElem? (i := 20) (by decide +kernel), List.mem_of_getElem? (i := 205) (by decide +kernel), List.mem_of_getElem? (i := 206) (by decide +kernel)⟩
theorem lw_p6 : lw_okq (⟨"ShotBook$Story", "isTake", "(I)Z"⟩, 12) := ⟨⟨by decide +kernel, by decide +kernel⟩, List.mem_of_getElem? (i := 20) (by decide +kernel), List.mem_of_getElem? (i := 213) (by decide +kernel), List.mem_of_getElem? (i := 214) (by decide +kernel)⟩
theorem lw_p7 : lw_okq (⟨"ShotBook$Story", "measureOf", "(II)I"⟩, 12) := ⟨⟨by decide +kernel, by decide +kernel⟩, List.mem_of_getElem? (i := 20) (by decide +kernel), List.mem_of_getElem? (i := 217) (by decide +kernel), List.mem_of_getElem? (i := 218) (by decide +kernel)⟩
theorem lw_p8 : lw_okq (⟨"ShotBook$Story", "setMeasure", "(III)V"⟩, 12) := ⟨⟨by decide +kernel, by decide +kernel⟩, List.mem_of_getElem? (i := 20) (by decide +kernel), List.mem_of_getElem? (i := 221) (by decide +kernel), List.mem_of_getElem? (i := 222) (by decide +kernel)⟩
theorem lw_p9 : lw_okq (⟨"ShotBook$Story", "copyMeasures", "(II)I"⟩, 12) := ⟨⟨by decide +kernel, by decide +kernel⟩, List.mem_of_getElem? (i := 20) (by decide +kernel), List.mem_of_getElem? (i := 229) (by decide +kernel), List.mem_of_getElem? (i := 230) (by decide +kernel)⟩
theorem lw_p10 : lw_okq (⟨"ShotBook$Story", "countThingsShownBy", "(I)I"⟩, 12) := ⟨⟨by decide +kernel, by decide +kernel⟩, List.mem_of_getElem? (i := 20) (by decide +kernel), List.mem_of_getElem? (i := 246) (by decide +kernel), List.mem_of_getElem? (i := 247) (by decide +kernel)⟩
theorem lw_p11 : lw_okq (⟨"ShotBook", "measureAsked", "(II)I"⟩, 6) := ⟨⟨by decide +kernel, by decide +kernel⟩, List.mem_of_getElem? (i := 12) (by decide +kernel), List.mem_of_getElem? (i := 250) (by decide +kernel), List.mem_of_getElem? (i := 251) (by decide +kernel)⟩
theorem lw_p12 : lw_okq (⟨"ShotBook$Story", "countTakesThatShow", "(I)I"⟩, 12) := ⟨⟨by decide +kernel, by decide +kernel⟩, List.mem_of_getElem? (i := 20) (by decide +kernel), List.mem_of_getElem? (i := 258) (by decide +kernel), List.mem_of_getElem? (i := 259) (by decide +kernel)⟩
theorem lw_p13 : lw_okq (⟨"ShotBook$Story", "orderOf", "(II)I"⟩, 12) := ⟨⟨by decide +kernel, by decide +kernel⟩, List.mem_of_getElem? (i := 20) (by decide +kernel), List.mem_of_getElem? (i := 266) (by decide +kernel), List.mem_of_getElem? (i := 267) (by decide +kernel)⟩
theorem lw_p14 : lw_okq (⟨"ShotBook$Story", "doClash", "(III)Z"⟩, 12) := ⟨⟨by decide +kernel, by decide +kernel⟩, List.mem_of_getElem? (i := 20) (by decide +kernel), List.mem_of_getElem? (i := 274) (by decide +kernel), List.mem_of_getElem? (i := 275) (by decide +kernel)⟩
theorem lw_p15 : lw_okq (⟨"ShotBook$Story", "healedBetween", "(III)I"⟩, 12) := ⟨⟨by decide +kernel, by decide +kernel⟩, List.mem_of_getElem? (i := 20) (by decide +kernel), List.mem_of_getElem? (i := 279) (by decide +kernel), List.mem_of_getElem? (i := 280) (by decide +kernel)⟩
def lw_privs_1 : List (MethodName × Nat) := [(⟨"ShotBook$Story", "addScene", "(II)I"⟩, 12), (⟨"ShotBook$Story", "isScene", "(I)Z"⟩, 12), (⟨"ShotBook$Story", "addThing", "(III)I"⟩, 12), (⟨"ShotBook$Story", "isThing", "(I)Z"⟩, 12), (⟨"ShotBook$Story", "countTakesOf", "(I)I"⟩, 12), (⟨"ShotBook$Story", "addTake", "(II)I"⟩, 12), (⟨"ShotBook$Story", "isTake", "(I)Z"⟩, 12), (⟨"ShotBook$Story", "measureOf", "(II)I"⟩, 12), (⟨"ShotBook$Story", "setMeasure", "(III)V"⟩, 12), (⟨"ShotBook$Story", "copyMeasures", "(II)I"⟩, 12), (⟨"ShotBook$Story", "countThingsShownBy", "(I)I"⟩, 12), (⟨"ShotBook", "measureAsked", "(II)I"⟩, 6), (⟨"ShotBook$Story", "countTakesThatShow", "(I)I"⟩, 12), (⟨"ShotBook$Story", "orderOf", "(II)I"⟩, 12), (⟨"ShotBook$Story", "doClash", "(III)Z"⟩, 12), (⟨"ShotBook$Story", "healedBetween", "(III)I"⟩, 12)]
theorem lw_r1 : ∀ q ∈ lw_privs_1, lw_okq q := List.forall_mem_cons.mpr ⟨lw_p0, List.forall_mem_cons.mpr ⟨lw_p1, List.forall_mem_cons.mpr ⟨lw_p2, List.forall_mem_cons.mpr ⟨lw_p3, List.forall_mem_cons.mpr ⟨lw_p4, List.forall_mem_cons.mpr ⟨lw_p5, List.forall_mem_cons.mpr ⟨lw_p6, List.forall_mem_cons.mpr ⟨lw_p7, List.forall_mem_cons.mpr ⟨lw_p8, List.forall_mem_cons.mpr ⟨lw_p9, List.forall_mem_cons.mpr ⟨lw_p10, List.forall_mem_cons.mpr ⟨lw_p11, List.forall_mem_cons.mpr ⟨lw_p12, List.forall_mem_cons.mpr ⟨lw_p13, List.forall_mem_cons.mpr ⟨lw_p14, List.forall_mem_cons.mpr ⟨lw_p15, fun _ h => absurd h List.not_mem_nil⟩⟩⟩⟩⟩⟩⟩⟩⟩⟩⟩⟩⟩⟩⟩⟩
theorem lw_p16 : lw_okq (⟨"ShotBook$Story", "breaksLaw", "(IIII)Z"⟩, 12) := ⟨⟨by decide +kernel, by decide +kernel⟩, List.mem_of_getElem? (i := 20) (by decide +kernel), List.mem_of_getElem? (i := 283) (by decide +kernel), List.mem_of_getElem? (i := 284) (by decide +kernel)⟩
theorem lw_p17 : lw_okq (⟨"ShotBook$Story", "noiseOf", "(II)I"⟩, 12) := ⟨⟨by decide +kernel, by decide +kernel⟩, List.mem_of_getElem? (i := 20) (by decide +kernel), List.mem_of_getElem? (i := 294) (by decide +kernel), List.mem_of_getElem? (i := 295) (by decide +kernel)⟩
theorem lw_p18 : lw_okq (⟨"ShotBook$BestCut", "find", "(LShotBook$Story;)V"⟩, 4) := ⟨⟨by decide +kernel, by decide +kernel⟩, List.mem_of_getElem? (i := 87) (by decide +kernel), List.mem_of_getElem? (i := 303) (by decide +kernel), List.mem_of_getElem? (i := 304) (by decide +kernel)⟩
theorem lw_p19 : lw_okq (⟨"ShotBook$BestCut", "reckonNoises", "(LShotBook$Story;)V"⟩, 4) := ⟨⟨by decide +kernel, by decide +kernel⟩, List.mem_of_getElem? (i := 87) (by decide +kernel), List.mem_of_getElem? (i := 307) (by decide +kernel), List.mem_of_getElem? (i := 308) (by decide +kernel)⟩
theorem lw_p20 : lw_okq (⟨"ShotBook$BestCut", "noiseWithEarlier", "(II)I"⟩, 4) := ⟨⟨by decide +kernel, by decide +kernel⟩, List.mem_of_getElem? (i := 87) (by decide +kernel), List.mem_of_getElem? (i := 319) (by decide +kernel), List.mem_of_getElem? (i := 320) (by decide +kernel)⟩
theorem lw_p21 : lw_okq (⟨"ShotBook$Story", "costOfChosen", "()I"⟩, 12) := ⟨⟨by decide +kernel, by decide +kernel⟩, List.mem_of_getElem? (i := 20) (by decide +kernel), List.mem_of_getElem? (i := 339) (by decide +kernel), List.mem_of_getElem? (i := 340) (by decide +kernel)⟩
theorem lw_p22 : lw_okq (⟨"ShotBook$Story", "chosenNoiseOf", "(II)I"⟩, 12) := ⟨⟨by decide +kernel, by decide +kernel⟩, List.mem_of_getElem? (i := 20) (by decide +kernel), List.mem_of_getElem? (i := 343) (by decide +kernel), List.mem_of_getElem? (i := 344) (by decide +kernel)⟩
theorem lw_p23 : lw_okq (⟨"ShotBook$Story", "areBothChosen", "(II)Z"⟩, 12) := ⟨⟨by decide +kernel, by decide +kernel⟩, List.mem_of_getElem? (i := 20) (by decide +kernel), List.mem_of_getElem? (i := 347) (by decide +kernel), List.mem_of_getElem? (i := 348) (by decide +kernel)⟩
theorem lw_p24 : lw_okq (⟨"ShotBook$Spans", "find", "(LShotBook$Story;II)V"⟩, 3) := ⟨⟨by decide +kernel, by decide +kernel⟩, List.mem_of_getElem? (i := 108) (by decide +kernel), List.mem_of_getElem? (i := 356) (by decide +kernel), List.mem_of_getElem? (i := 357) (by decide +kernel)⟩
theorem lw_p25 : lw_okq (⟨"ShotBook$Spans", "narrowBy", "(LShotBook$Story;IIII)V"⟩, 3) := ⟨⟨by decide +kernel, by decide +kernel⟩, List.mem_of_getElem? (i := 108) (by decide +kernel), List.mem_of_getElem? (i := 361) (by decide +kernel), List.mem_of_getElem? (i := 362) (by decide +kernel)⟩
theorem lw_p26 : lw_okq (⟨"ShotBook$Spans", "keepWithin", "(III)V"⟩, 3) := ⟨⟨by decide +kernel, by decide +kernel⟩, List.mem_of_getElem? (i := 108) (by decide +kernel), List.mem_of_getElem? (i := 365) (by decide +kernel), List.mem_of_getElem? (i := 366) (by decide +kernel)⟩
theorem lw_p27 : lw_okq (⟨"ShotBook$Spans", "narrowAfter", "(IIII)V"⟩, 3) := ⟨⟨by decide +kernel, by decide +kernel⟩, List.mem_of_getElem? (i := 108) (by decide +kernel), List.mem_of_getElem? (i := 375) (by decide +kernel), List.mem_of_getElem? (i := 376) (by decide +kernel)⟩
theorem lw_p28 : lw_okq (⟨"ShotBook$Spans", "narrowBefore", "(IIII)V"⟩, 3) := ⟨⟨by decide +kernel, by decide +kernel⟩, List.mem_of_getElem? (i := 108) (by decide +kernel), List.mem_of_getElem? (i := 379) (by decide +kernel), List.mem_of_getElem? (i := 380) (by decide +kernel)⟩
theorem lw_p29 : lw_okq (⟨"ShotBook$Spans", "sizeOf", "(I)I"⟩, 3) := ⟨⟨by decide +kernel, by decide +kernel⟩, List.mem_of_getElem? (i := 108) (by decide +kernel), List.mem_of_getElem? (i := 383) (by decide +kernel), List.mem_of_getElem? (i := 384) (by decide +kernel)⟩
theorem lw_p30 : lw_okq (⟨"ShotBook", "doublesOrRefusal", "(II)I"⟩, 6) := ⟨⟨by decide +kernel, by decide +kernel⟩, List.mem_of_getElem? (i := 12) (by decide +kernel), List.mem_of_getElem? (i := 391) (by decide +kernel), List.mem_of_getElem? (i := 392) (by decide +kernel)⟩
theorem lw_p31 : lw_okq (⟨"ShotBook$Story", "isSetOfScenes", "(I)Z"⟩, 12) := ⟨⟨by decide +kernel, by decide +kernel⟩, List.mem_of_getElem? (i := 20) (by decide +kernel), List.mem_of_getElem? (i := 395) (by decide +kernel), List.mem_of_getElem? (i := 396) (by decide +kernel)⟩
def lw_privs_2 : List (MethodName × Nat) := [(⟨"ShotBook$Story", "breaksLaw", "(IIII)Z"⟩, 12), (⟨"ShotBook$Story", "noiseOf", "(II)I"⟩, 12), (⟨"ShotBook$BestCut", "find", "(LShotBook$Story;)V"⟩, 4), (⟨"ShotBook$BestCut", "reckonNoises", "(LShotBook$Story;)V"⟩, 4), (⟨"ShotBook$BestCut", "noiseWithEarlier", "(II)I"⟩, 4), (⟨"ShotBook$Story", "costOfChosen", "()I"⟩, 12), (⟨"ShotBook$Story", "chosenNoiseOf", "(II)I"⟩, 12), (⟨"ShotBook$Story", "areBothChosen", "(II)Z"⟩, 12), (⟨"ShotBook$Spans", "find", "(LShotBook$Story;II)V"⟩, 3), (⟨"ShotBook$Spans", "narrowBy", "(LShotBook$Story;IIII)V"⟩, 3), (⟨"ShotBook$Spans", "keepWithin", "(III)V"⟩, 3), (⟨"ShotBook$Spans", "narrowAfter", "(IIII)V"⟩, 3), (⟨"ShotBook$Spans", "narrowBefore", "(IIII)V"⟩, 3), (⟨"ShotBook$Spans", "sizeOf", "(I)I"⟩, 3), (⟨"ShotBook", "doublesOrRefusal", "(II)I"⟩, 6), (⟨"ShotBook$Story", "isSetOfScenes", "(I)Z"⟩, 12)]
theorem lw_r2 : ∀ q ∈ lw_privs_2, lw_okq q := List.forall_mem_cons.mpr ⟨lw_p16, List.forall_mem_cons.mpr ⟨lw_p17, List.forall_mem_cons.mpr ⟨lw_p18, List.forall_mem_cons.mpr ⟨lw_p19, List.forall_mem_cons.mpr ⟨lw_p20, List.forall_mem_cons.mpr ⟨lw_p21, List.forall_mem_cons.mpr ⟨lw_p22, List.forall_mem_cons.mpr ⟨lw_p23, List.forall_mem_cons.mpr ⟨lw_p24, List.forall_mem_cons.mpr ⟨lw_p25, List.forall_mem_cons.mpr ⟨lw_p26, List.forall_mem_cons.mpr ⟨lw_p27, List.forall_mem_cons.mpr ⟨lw_p28, List.forall_mem_cons.mpr ⟨lw_p29, List.forall_mem_cons.mpr ⟨lw_p30, List.forall_mem_cons.mpr ⟨lw_p31, fun _ h => absurd h List.not_mem_nil⟩⟩⟩⟩⟩⟩⟩⟩⟩⟩⟩⟩⟩⟩⟩⟩
theorem lw_p32 : lw_okq (⟨"ShotBook$Spans", "findDoubles", "(LShotBook$Story;II)I"⟩, 3) := ⟨⟨by decide +kernel, by decide +kernel⟩, List.mem_of_getElem? (i := 108) (by decide +kernel), List.mem_of_getElem? (i := 399) (by decide +kernel), List.mem_of_getElem? (i := 400) (by decide +kernel)⟩
theorem lw_p33 : lw_okq (⟨"ShotBook$Spans", "fillDoublesRow", "(I)I"⟩, 3) := ⟨⟨by decide +kernel, by decide +kernel⟩, List.mem_of_getElem? (i := 108) (by decide +kernel), List.mem_of_getElem? (i := 408) (by decide +kernel), List.mem_of_getElem? (i := 409) (by decide +kernel)⟩
theorem lw_p34 : lw_okq (⟨"ShotBook$Spans", "leastHighOf", "(I)I"⟩, 3) := ⟨⟨by decide +kernel, by decide +kernel⟩, List.mem_of_getElem? (i := 108) (by decide +kernel), List.mem_of_getElem? (i := 412) (by decide +kernel), List.mem_of_getElem? (i := 413) (by decide +kernel)⟩
theorem lw_p35 : lw_okq (⟨"ShotBook$Spans", "withoutServed", "(II)I"⟩, 3) := ⟨⟨by decide +kernel, by decide +kernel⟩, List.mem_of_getElem? (i := 108) (by decide +kernel), List.mem_of_getElem? (i := 416) (by decide +kernel), List.mem_of_getElem? (i := 417) (by decide +kernel)⟩
theorem lw_p36 : lw_okq (⟨"ShotBook$Quarrels", "find", "(LShotBook$Story;)V"⟩, 1) := ⟨⟨by decide +kernel, by decide +kernel⟩, List.mem_of_getElem? (i := 127) (by decide +kernel), List.mem_of_getElem? (i := 428) (by decide +kernel), List.mem_of_getElem? (i := 429) (by decide +kernel)⟩
theorem lw_p37 : lw_okq (⟨"ShotBook$Quarrels", "leastReshoots", "(I)I"⟩, 1) := ⟨⟨by decide +kernel, by decide +kernel⟩, List.mem_of_getElem? (i := 127) (by decide +kernel), List.mem_of_getElem? (i := 433) (by decide +kernel), List.mem_of_getElem? (i := 434) (by decide +kernel)⟩
theorem lw_p38 : lw_okq (⟨"ShotBook$Quarrels", "isPeaceful", "(I)Z"⟩, 1) := ⟨⟨by decide +kernel, by decide +kernel⟩, List.mem_of_getElem? (i := 127) (by decide +kernel), List.mem_of_getElem? (i := 443) (by decide +kernel), List.mem_of_getElem? (i := 444) (by decide +kernel)⟩
theorem lw_p39 : lw_okq (⟨"ShotBook$Story", "countChosenClashesBy", "(I)I"⟩, 12) := ⟨⟨by decide +kernel, by decide +kernel⟩, List.mem_of_getElem? (i := 20) (by decide +kernel), List.mem_of_getElem? (i := 452) (by decide +kernel), List.mem_of_getElem? (i := 453) (by decide +kernel)⟩
theorem lw_p40 : lw_okq (⟨"ShotBook$Story", "countScenesWithChosen", "()I"⟩, 12) := ⟨⟨by decide +kernel, by decide +kernel⟩, List.mem_of_getElem? (i := 20) (by decide +kernel), List.mem_of_getElem? (i := 460) (by decide +kernel), List.mem_of_getElem? (i := 461) (by decide +kernel)⟩
theorem lw_p41 : lw_okq (⟨"ShotBook$Story", "countNoisyPairs", "()I"⟩, 12) := ⟨⟨by decide +kernel, by decide +kernel⟩, List.mem_of_getElem? (i := 20) (by decide +kernel), List.mem_of_getElem? (i := 464) (by decide +kernel), List.mem_of_getElem? (i := 465) (by decide +kernel)⟩
theorem lw_p42 : lw_okq (⟨"ShotBook$Story", "becomeLike", "(LShotBook$Story;)V"⟩, 12) := ⟨⟨by decide +kernel, by decide +kernel⟩, List.mem_of_getElem? (i := 20) (by decide +kernel), List.mem_of_getElem? (i := 472) (by decide +kernel), List.mem_of_getElem? (i := 473) (by decide +kernel)⟩
theorem lw_p43 : lw_okq (⟨"ShotBookModel", "isScene", "(I)Z"⟩, 27) := ⟨⟨by decide +kernel, by decide +kernel⟩, List.mem_of_getElem? (i := 481) (by decide +kernel), List.mem_of_getElem? (i := 580) (by decide +kernel), List.mem_of_getElem? (i := 581) (by decide +kernel)⟩
theorem lw_p44 : lw_okq (⟨"ShotBookModel", "isThing", "(I)Z"⟩, 27) := ⟨⟨by decide +kernel, by decide +kernel⟩, List.mem_of_getElem? (i := 481) (by decide +kernel), List.mem_of_getElem? (i := 592) (by decide +kernel), List.mem_of_getElem? (i := 593) (by decide +kernel)⟩
theorem lw_p45 : lw_okq (⟨"ShotBookModel", "takesOf", "(I)I"⟩, 27) := ⟨⟨by decide +kernel, by decide +kernel⟩, List.mem_of_getElem? (i := 481) (by decide +kernel), List.mem_of_getElem? (i := 600) (by decide +kernel), List.mem_of_getElem? (i := 601) (by decide +kernel)⟩
theorem lw_p46 : lw_okq (⟨"ShotBookModel", "isTake", "(I)Z"⟩, 27) := ⟨⟨by decide +kernel, by decide +kernel⟩, List.mem_of_getElem? (i := 481) (by decide +kernel), List.mem_of_getElem? (i := 608) (by decide +kernel), List.mem_of_getElem? (i := 609) (by decide +kernel)⟩
theorem lw_p47 : lw_okq (⟨"ShotBookModel", "isAhead", "(II)Z"⟩, 27) := ⟨⟨by decide +kernel, by decide +kernel⟩, List.mem_of_getElem? (i := 481) (by decide +kernel), List.mem_of_getElem? (i := 632) (by decide +kernel), List.mem_of_getElem? (i := 633) (by decide +kernel)⟩
def lw_privs_3 : List (MethodName × Nat) := [(⟨"ShotBook$Spans", "findDoubles", "(LShotBook$Story;II)I"⟩, 3), (⟨"ShotBook$Spans", "fillDoublesRow", "(I)I"⟩, 3), (⟨"ShotBook$Spans", "leastHighOf", "(I)I"⟩, 3), (⟨"ShotBook$Spans", "withoutServed", "(II)I"⟩, 3), (⟨"ShotBook$Quarrels", "find", "(LShotBook$Story;)V"⟩, 1), (⟨"ShotBook$Quarrels", "leastReshoots", "(I)I"⟩, 1), (⟨"ShotBook$Quarrels", "isPeaceful", "(I)Z"⟩, 1), (⟨"ShotBook$Story", "countChosenClashesBy", "(I)I"⟩, 12), (⟨"ShotBook$Story", "countScenesWithChosen", "()I"⟩, 12), (⟨"ShotBook$Story", "countNoisyPairs", "()I"⟩, 12), (⟨"ShotBook$Story", "becomeLike", "(LShotBook$Story;)V"⟩, 12), (⟨"ShotBookModel", "isScene", "(I)Z"⟩, 27), (⟨"ShotBookModel", "isThing", "(I)Z"⟩, 27), (⟨"ShotBookModel", "takesOf", "(I)I"⟩, 27), (⟨"ShotBookModel", "isTake", "(I)Z"⟩, 27), (⟨"ShotBookModel", "isAhead", "(II)Z"⟩, 27)]
theorem lw_r3 : ∀ q ∈ lw_privs_3, lw_okq q := List.forall_mem_cons.mpr ⟨lw_p32, List.forall_mem_cons.mpr ⟨lw_p33, List.forall_mem_cons.mpr ⟨lw_p34, List.forall_mem_cons.mpr ⟨lw_p35, List.forall_mem_cons.mpr ⟨lw_p36, List.forall_mem_cons.mpr ⟨lw_p37, List.forall_mem_cons.mpr ⟨lw_p38, List.forall_mem_cons.mpr ⟨lw_p39, List.forall_mem_cons.mpr ⟨lw_p40, List.forall_mem_cons.mpr ⟨lw_p41, List.forall_mem_cons.mpr ⟨lw_p42, List.forall_mem_cons.mpr ⟨lw_p43, List.forall_mem_cons.mpr ⟨lw_p44, List.forall_mem_cons.mpr ⟨lw_p45, List.forall_mem_cons.mpr ⟨lw_p46, List.forall_mem_cons.mpr ⟨lw_p47, fun _ h => absurd h List.not_mem_nil⟩⟩⟩⟩⟩⟩⟩⟩⟩⟩⟩⟩⟩⟩⟩⟩
theorem lw_p48 : lw_okq (⟨"ShotBookModel", "doClash", "(III)Z"⟩, 27) := ⟨⟨by decide +kernel, by decide +kernel⟩, List.mem_of_getElem? (i := 481) (by decide +kernel), List.mem_of_getElem? (i := 640) (by decide +kernel), List.mem_of_getElem? (i := 641) (by decide +kernel)⟩
theorem lw_p49 : lw_okq (⟨"ShotBookModel", "quarrels", "(IIIII)Z"⟩, 27) := ⟨⟨by decide +kernel, by decide +kernel⟩, List.mem_of_getElem? (i := 481) (by decide +kernel), List.mem_of_getElem? (i := 644) (by decide +kernel), List.mem_of_getElem? (i := 645) (by decide +kernel)⟩
theorem lw_p50 : lw_okq (⟨"ShotBookModel", "breaks", "(IIII)Z"⟩, 27) := ⟨⟨by decide +kernel, by decide +kernel⟩, List.mem_of_getElem? (i := 481) (by decide +kernel), List.mem_of_getElem? (i := 648) (by decide +kernel), List.mem_of_getElem? (i := 649) (by decide +kernel)⟩
theorem lw_p51 : lw_okq (⟨"ShotBookModel", "noiseOf", "(II)I"⟩, 27) := ⟨⟨by decide +kernel, by decide +kernel⟩, List.mem_of_getElem? (i := 481) (by decide +kernel), List.mem_of_getElem? (i := 656) (by decide +kernel), List.mem_of_getElem? (i := 657) (by decide +kernel)⟩
theorem lw_p52 : lw_okq (⟨"ShotBookModel", "findCut", "()V"⟩, 27) := ⟨⟨by decide +kernel, by decide +kernel⟩, List.mem_of_getElem? (i := 481) (by decide +kernel), List.mem_of_getElem? (i := 664) (by decide +kernel), List.mem_of_getElem? (i := 665) (by decide +kernel)⟩
theorem lw_p53 : lw_okq (⟨"ShotBookModel", "findNoises", "()V"⟩, 27) := ⟨⟨by decide +kernel, by decide +kernel⟩, List.mem_of_getElem? (i := 481) (by decide +kernel), List.mem_of_getElem? (i := 668) (by decide +kernel), List.mem_of_getElem? (i := 669) (by decide +kernel)⟩
theorem lw_p54 : lw_okq (⟨"ShotBookModel", "nextTake", "(II)I"⟩, 27) := ⟨⟨by decide +kernel, by decide +kernel⟩, List.mem_of_getElem? (i := 481) (by decide +kernel), List.mem_of_getElem? (i := 672) (by decide +kernel), List.mem_of_getElem? (i := 673) (by decide +kernel)⟩
theorem lw_p55 : lw_okq (⟨"ShotBookModel", "costOf", "([I)I"⟩, 27) := ⟨⟨by decide +kernel, by decide +kernel⟩, List.mem_of_getElem? (i := 481) (by decide +kernel), List.mem_of_getElem? (i := 676) (by decide +kernel), List.mem_of_getElem? (i := 677) (by decide +kernel)⟩
theorem lw_p56 : lw_okq (⟨"ShotBookModel", "findSpan", "(II)V"⟩, 27) := ⟨⟨by decide +kernel, by decide +kernel⟩, List.mem_of_getElem? (i := 481) (by decide +kernel), List.mem_of_getElem? (i := 700) (by decide +kernel), List.mem_of_getElem? (i := 701) (by decide +kernel)⟩
theorem lw_p57 : lw_okq (⟨"ShotBookModel", "maySee", "(III)Z"⟩, 27) := ⟨⟨by decide +kernel, by decide +kernel⟩, List.mem_of_getElem? (i := 481) (by decide +kernel), List.mem_of_getElem? (i := 704) (by decide +kernel), List.mem_of_getElem? (i := 705) (by decide +kernel)⟩
theorem lw_p58 : lw_okq (⟨"ShotBookModel", "isSet", "(I)Z"⟩, 27) := ⟨⟨by decide +kernel, by decide +kernel⟩, List.mem_of_getElem? (i := 481) (by decide +kernel), List.mem_of_getElem? (i := 712) (by decide +kernel), List.mem_of_getElem? (i := 713) (by decide +kernel)⟩
theorem lw_p59 : lw_okq (⟨"ShotBookModel", "findDoubles", "(II)Z"⟩, 27) := ⟨⟨by decide +kernel, by decide +kernel⟩, List.mem_of_getElem? (i := 481) (by decide +kernel), List.mem_of_getElem? (i := 716) (by decide +kernel), List.mem_of_getElem? (i := 717) (by decide +kernel)⟩
theorem lw_p60 : lw_okq (⟨"ShotBookModel", "areQuiet", "(I)Z"⟩, 27) := ⟨⟨by decide +kernel, by decide +kernel⟩, List.mem_of_getElem? (i := 481) (by decide +kernel), List.mem_of_getElem? (i := 731) (by decide +kernel), List.mem_of_getElem? (i := 732) (by decide +kernel)⟩
theorem lw_p61 : lw_okq (⟨"ShotBookModel", "withChosen", "()I"⟩, 27) := ⟨⟨by decide +kernel, by decide +kernel⟩, List.mem_of_getElem? (i := 481) (by decide +kernel), List.mem_of_getElem? (i := 743) (by decide +kernel), List.mem_of_getElem? (i := 744) (by decide +kernel)⟩
theorem lw_p62 : lw_okq (⟨"ShotBookModel", "pairs", "()I"⟩, 27) := ⟨⟨by decide +kernel, by decide +kernel⟩, List.mem_of_getElem? (i := 481) (by decide +kernel), List.mem_of_getElem? (i := 747) (by decide +kernel), List.mem_of_getElem? (i := 748) (by decide +kernel)⟩
def lw_privs_4 : List (MethodName × Nat) := [(⟨"ShotBookModel", "doClash", "(III)Z"⟩, 27), (⟨"ShotBookModel", "quarrels", "(IIIII)Z"⟩, 27), (⟨"ShotBookModel", "breaks", "(IIII)Z"⟩, 27), (⟨"ShotBookModel", "noiseOf", "(II)I"⟩, 27), (⟨"ShotBookModel", "findCut", "()V"⟩, 27), (⟨"ShotBookModel", "findNoises", "()V"⟩, 27), (⟨"ShotBookModel", "nextTake", "(II)I"⟩, 27), (⟨"ShotBookModel", "costOf", "([I)I"⟩, 27), (⟨"ShotBookModel", "findSpan", "(II)V"⟩, 27), (⟨"ShotBookModel", "maySee", "(III)Z"⟩, 27), (⟨"ShotBookModel", "isSet", "(I)Z"⟩, 27), (⟨"ShotBookModel", "findDoubles", "(II)Z"⟩, 27), (⟨"ShotBookModel", "areQuiet", "(I)Z"⟩, 27), (⟨"ShotBookModel", "withChosen", "()I"⟩, 27), (⟨"ShotBookModel", "pairs", "()I"⟩, 27)]
theorem lw_r4 : ∀ q ∈ lw_privs_4, lw_okq q := List.forall_mem_cons.mpr ⟨lw_p48, List.forall_mem_cons.mpr ⟨lw_p49, List.forall_mem_cons.mpr ⟨lw_p50, List.forall_mem_cons.mpr ⟨lw_p51, List.forall_mem_cons.mpr ⟨lw_p52, List.forall_mem_cons.mpr ⟨lw_p53, List.forall_mem_cons.mpr ⟨lw_p54, List.forall_mem_cons.mpr ⟨lw_p55, List.forall_mem_cons.mpr ⟨lw_p56, List.forall_mem_cons.mpr ⟨lw_p57, List.forall_mem_cons.mpr ⟨lw_p58, List.forall_mem_cons.mpr ⟨lw_p59, List.forall_mem_cons.mpr ⟨lw_p60, List.forall_mem_cons.mpr ⟨lw_p61, List.forall_mem_cons.mpr ⟨lw_p62, fun _ h => absurd h List.not_mem_nil⟩⟩⟩⟩⟩⟩⟩⟩⟩⟩⟩⟩⟩⟩⟩
def lw_privs : List (MethodName × Nat) := lw_privs_1 ++ (lw_privs_2 ++ (lw_privs_3 ++ (lw_privs_4)))
def lw_tbl : List Cond := k2_sels lw_privs ++ tables_1
theorem lw_privs_ok : ∀ q ∈ lw_privs, lw_okq q := by
  show ∀ q ∈ lw_privs_1 ++ (lw_privs_2 ++ (lw_privs_3 ++ (lw_privs_4))), lw_okq q
  exact List.forall_mem_append.mpr ⟨lw_r1, List.forall_mem_append.mpr ⟨lw_r2, List.forall_mem_append.mpr ⟨lw_r3, lw_r4⟩⟩⟩
end
section
def RX0 : String := "ShotBook$BestCut"
def TX0 : u_T := fun k => match k with
  | 0 => ("ShotBook$BestCut", "leastCost", "I", false)
  | 1 => ("ShotBook$BestCut", "takeFor", "[I", true)
  | 2 => ("ShotBook$BestCut", "trial", "[I", true)
  | _ => ("ShotBook$BestCut", "noises", "[I", true)
def tyX0 : Nat → FieldType := fun k => match k with
  | 0 => .int
  | 1 => .array .int
  | 2 => .array .int
  | _ => .array .int
theorem nmX0 : ∀ a, a < 4 → ∀ b, b < 4 → a ≠ b → (TX0 a).2.1 ≠ (TX0 b).2.1 := by decide +kernel
theorem tyX0_ok : ∀ k, k < 4 → parseFieldDescriptor (TX0 k).2.2.1 = some (tyX0 k) := by decide +kernel
abbrev cX0_init : ByteArray := prog_2_method_1_code
def yX0_init : MethodName := ⟨RX0, "<init>", "()V"⟩
abbrev cX0_find : ByteArray := prog_2_method_2_code
def yX0_find : MethodName := ⟨RX0, "find", "(LShotBook$Story;)V"⟩
abbrev cX0_reckonNoises : ByteArray := prog_2_method_3_code
def yX0_reckonNoises : MethodName := ⟨RX0, "reckonNoises", "(LShotBook$Story;)V"⟩
abbrev cX0_tryFrom : ByteArray := prog_2_method_4_code
def yX0_tryFrom : MethodName := ⟨RX0, "tryFrom", "(LShotBook$BestCut;LShotBook$Story;II)V"⟩
abbrev cX0_noiseWithEarlier : ByteArray := prog_2_method_5_code
def yX0_noiseWithEarlier : MethodName := ⟨RX0, "noiseWithEarlier", "(II)I"⟩
def RX1 : String := "ShotBook$Quarrels"
def TX1 : u_T := fun k => match k with
  | _ => ("ShotBook$Quarrels", "foesOf", "[I", true)
def tyX1 : Nat → FieldType := fun k => match k with
  | _ => .array .int
theorem nmX1 : ∀ a, a < 1 → ∀ b, b < 1 → a ≠ b → (TX1 a).2.1 ≠ (TX1 b).2.1 := by decide +kernel
theorem tyX1_ok : ∀ k, k < 1 → parseFieldDescriptor (TX1 k).2.2.1 = some (tyX1 k) := by decide +kernel
abbrev cX1_init : ByteArray := prog_3_method_1_code
def yX1_init : MethodName := ⟨RX1, "<init>", "()V"⟩
abbrev cX1_find : ByteArray := prog_3_method_2_code
def yX1_find : MethodName := ⟨RX1, "find", "(LShotBook$Story;)V"⟩
abbrev cX1_leastReshoots : ByteArray := prog_3_method_3_code
def yX1_leastReshoots : MethodName := ⟨RX1, "leastReshoots", "(I)I"⟩
abbrev cX1_isPeaceful : ByteArray := prog_3_method_4_code
def yX1_isPeaceful : MethodName := ⟨RX1, "isPeaceful", "(I)Z"⟩
def RX2 : String := "ShotBook$Spans"
def TX2 : u_T := fun k => match k with
  | 0 => ("ShotBook$Spans", "lowOf", "[I", true)
  | 1 => ("ShotBook$Spans", "highOf", "[I", true)
  | _ => ("ShotBook$Spans", "doublesRow", "[I", true)
def tyX2 : Nat → FieldType := fun k => match k with
  | 0 => .array .int
  | 1 => .array .int
  | _ => .array .int
theorem nmX2 : ∀ a, a < 3 → ∀ b, b < 3 → a ≠ b → (TX2 a).2.1 ≠ (TX2 b).2.1 := by decide +kernel
theorem tyX2_ok : ∀ k, k < 3 → parseFieldDescriptor (TX2 k).2.2.1 = some (tyX2 k) := by decide +kernel
abbrev cX2_init : ByteArray := prog_4_method_1_code
def yX2_init : MethodName := ⟨RX2, "<init>", "()V"⟩
abbrev cX2_sizeOf : ByteArray := prog_4_method_2_code
def yX2_sizeOf : MethodName := ⟨RX2, "sizeOf", "(I)I"⟩
abbrev cX2_find : ByteArray := prog_4_method_3_code
def yX2_find : MethodName := ⟨RX2, "find", "(LShotBook$Story;II)V"⟩
abbrev cX2_narrowBy : ByteArray := prog_4_method_4_code
def yX2_narrowBy : MethodName := ⟨RX2, "narrowBy", "(LShotBook$Story;IIII)V"⟩
abbrev cX2_narrowAfter : ByteArray := prog_4_method_5_code
def yX2_narrowAfter : MethodName := ⟨RX2, "narrowAfter", "(IIII)V"⟩
abbrev cX2_narrowBefore : ByteArray := prog_4_method_6_code
def yX2_narrowBefore : MethodName := ⟨RX2, "narrowBefore", "(IIII)V"⟩
abbrev cX2_keepWithin : ByteArray := prog_4_method_7_code
def yX2_keepWithin : MethodName := ⟨RX2, "keepWithin", "(III)V"⟩
abbrev cX2_findDoubles : ByteArray := prog_4_method_8_code
def yX2_findDoubles : MethodName := ⟨RX2, "findDoubles", "(LShotBook$Story;II)I"⟩
abbrev cX2_fillDoublesRow : ByteArray := prog_4_method_9_code
def yX2_fillDoublesRow : MethodName := ⟨RX2, "fillDoublesRow", "(I)I"⟩
abbrev cX2_leastHighOf : ByteArray := prog_4_method_10_code
def yX2_leastHighOf : MethodName := ⟨RX2, "leastHighOf", "(I)I"⟩
abbrev cX2_withoutServed : ByteArray := prog_4_method_11_code
def yX2_withoutServed : MethodName := ⟨RX2, "withoutServed", "(II)I"⟩
def RX3 : String := "ShotBook$Story"
def TX3 : u_T := fun k => match k with
  | 0 => ("ShotBook$Story", "sceneCount", "I", false)
  | 1 => ("ShotBook$Story", "dayOf", "[I", true)
  | 2 => ("ShotBook$Story", "placeOf", "[I", true)
  | 3 => ("ShotBook$Story", "chosenOf", "[I", true)
  | 4 => ("ShotBook$Story", "thingCount", "I", false)
  | 5 => ("ShotBook$Story", "lawOf", "[I", true)
  | 6 => ("ShotBook$Story", "rateOf", "[I", true)
  | 7 => ("ShotBook$Story", "loudnessOf", "[I", true)
  | 8 => ("ShotBook$Story", "takeCount", "I", false)
  | 9 => ("ShotBook$Story", "sceneOf", "[I", true)
  | 10 => ("ShotBook$Story", "flawOf", "[I", true)
  | _ => ("ShotBook$Story", "measures", "[I", true)
def tyX3 : Nat → FieldType := fun k => match k with
  | 0 => .int
  | 1 => .array .int
  | 2 => .array .int
  | 3 => .array .int
  | 4 => .int
  | 5 => .array .int
  | 6 => .array .int
  | 7 => .array .int
  | 8 => .int
  | 9 => .array .int
  | 10 => .array .int
  | _ => .array .int
theorem nmX3 : ∀ a, a < 12 → ∀ b, b < 12 → a ≠ b → (TX3 a).2.1 ≠ (TX3 b).2.1 := by decide +kernel
theorem tyX3_ok : ∀ k, k < 12 → parseFieldDescriptor (TX3 k).2.2.1 = some (tyX3 k) := by decide +kernel
abbrev cX3_init : ByteArray := prog_5_method_1_code
def yX3_init : MethodName := ⟨RX3, "<init>", "()V"⟩
abbrev cX3_becomeLike : ByteArray := prog_5_method_2_code
def yX3_becomeLike : MethodName := ⟨RX3, "becomeLike", "(LShotBook$Story;)V"⟩
abbrev cX3_isScene : ByteArray := prog_5_method_3_code
def yX3_isScene : MethodName := ⟨RX3, "isScene", "(I)Z"⟩
abbrev cX3_isThing : ByteArray := prog_5_method_4_code
def yX3_isThing : MethodName := ⟨RX3, "isThing", "(I)Z"⟩
abbrev cX3_isTake : ByteArray := prog_5_method_5_code
def yX3_isTake : MethodName := ⟨RX3, "isTake", "(I)Z"⟩
abbrev cX3_isSetOfScenes : ByteArray := prog_5_method_6_code
def yX3_isSetOfScenes : MethodName := ⟨RX3, "isSetOfScenes", "(I)Z"⟩
abbrev cX3_addScene : ByteArray := prog_5_method_7_code
def yX3_addScene : MethodName := ⟨RX3, "addScene", "(II)I"⟩
abbrev cX3_addThing : ByteArray := prog_5_method_8_code
def yX3_addThing : MethodName := ⟨RX3, "addThing", "(III)I"⟩
abbrev cX3_addTake : ByteArray := prog_5_method_9_code
def yX3_addTake : MethodName := ⟨RX3, "addTake", "(II)I"⟩
abbrev cX3_measureOf : ByteArray := prog_5_method_10_code
def yX3_measureOf : MethodName := ⟨RX3, "measureOf", "(II)I"⟩
abbrev cX3_setMeasure : ByteArray := prog_5_method_11_code
def yX3_setMeasure : MethodName := ⟨RX3, "setMeasure", "(III)V"⟩
abbrev cX3_copyMeasures : ByteArray := prog_5_method_12_code
def yX3_copyMeasures : MethodName := ⟨RX3, "copyMeasures", "(II)I"⟩
abbrev cX3_countTakesOf : ByteArray := prog_5_method_13_code
def yX3_countTakesOf : MethodName := ⟨RX3, "countTakesOf", "(I)I"⟩
abbrev cX3_countThingsShownBy : ByteArray := prog_5_method_14_code
def yX3_countThingsShownBy : MethodName := ⟨RX3, "countThingsShownBy", "(I)I"⟩
abbrev cX3_countTakesThatShow : ByteArray := prog_5_method_15_code
def yX3_countTakesThatShow : MethodName := ⟨RX3, "countTakesThatShow", "(I)I"⟩
abbrev cX3_countScenesWithChosen : ByteArray := prog_5_method_16_code
def yX3_countScenesWithChosen : MethodName := ⟨RX3, "countScenesWithChosen", "()I"⟩
abbrev cX3_orderOf : ByteArray := prog_5_method_17_code
def yX3_orderOf : MethodName := ⟨RX3, "orderOf", "(II)I"⟩
abbrev cX3_healedBetween : ByteArray := prog_5_method_18_code
def yX3_healedBetween : MethodName := ⟨RX3, "healedBetween", "(III)I"⟩
abbrev cX3_doClash : ByteArray := prog_5_method_19_code
def yX3_doClash : MethodName := ⟨RX3, "doClash", "(III)Z"⟩
abbrev cX3_breaksLaw : ByteArray := prog_5_method_20_code
def yX3_breaksLaw : MethodName := ⟨RX3, "breaksLaw", "(IIII)Z"⟩
abbrev cX3_noiseOf : ByteArray := prog_5_method_21_code
def yX3_noiseOf : MethodName := ⟨RX3, "noiseOf", "(II)I"⟩
abbrev cX3_countNoisyPairs : ByteArray := prog_5_method_22_code
def yX3_countNoisyPairs : MethodName := ⟨RX3, "countNoisyPairs", "()I"⟩
abbrev cX3_areBothChosen : ByteArray := prog_5_method_23_code
def yX3_areBothChosen : MethodName := ⟨RX3, "areBothChosen", "(II)Z"⟩
abbrev cX3_costOfChosen : ByteArray := prog_5_method_24_code
def yX3_costOfChosen : MethodName := ⟨RX3, "costOfChosen", "()I"⟩
abbrev cX3_chosenNoiseOf : ByteArray := prog_5_method_25_code
def yX3_chosenNoiseOf : MethodName := ⟨RX3, "chosenNoiseOf", "(II)I"⟩
abbrev cX3_countChosenClashesBy : ByteArray := prog_5_method_26_code
def yX3_countChosenClashesBy : MethodName := ⟨RX3, "countChosenClashesBy", "(I)I"⟩
def RX4 : String := "ShotBook"
def TX4 : u_T := fun k => match k with
  | 0 => ("ShotBook", "now", "LShotBook$Story;", true)
  | 1 => ("ShotBook", "kept", "LShotBook$Story;", true)
  | 2 => ("ShotBook", "hasKept", "Z", false)
  | 3 => ("ShotBook", "bestCut", "LShotBook$BestCut;", true)
  | 4 => ("ShotBook", "spans", "LShotBook$Spans;", true)
  | _ => ("ShotBook", "quarrels", "LShotBook$Quarrels;", true)
def tyX4 : Nat → FieldType := fun k => match k with
  | 0 => .object "ShotBook$Story"
  | 1 => .object "ShotBook$Story"
  | 2 => .boolean
  | 3 => .object "ShotBook$BestCut"
  | 4 => .object "ShotBook$Spans"
  | _ => .object "ShotBook$Quarrels"
theorem nmX4 : ∀ a, a < 6 → ∀ b, b < 6 → a ≠ b → (TX4 a).2.1 ≠ (TX4 b).2.1 := by decide +kernel
theorem tyX4_ok : ∀ k, k < 6 → parseFieldDescriptor (TX4 k).2.2.1 = some (tyX4 k) := by decide +kernel
abbrev cX4_init : ByteArray := prog_1_method_1_code
def yX4_init : MethodName := ⟨RX4, "<init>", "()V"⟩
abbrev cX4_scene : ByteArray := prog_1_method_2_code
def yX4_scene : MethodName := ⟨RX4, "scene", "(II)I"⟩
abbrev cX4_shift : ByteArray := prog_1_method_3_code
def yX4_shift : MethodName := ⟨RX4, "shift", "(III)I"⟩
abbrev cX4_thing : ByteArray := prog_1_method_4_code
def yX4_thing : MethodName := ⟨RX4, "thing", "(III)I"⟩
abbrev cX4_loud : ByteArray := prog_1_method_5_code
def yX4_loud : MethodName := ⟨RX4, "loud", "(II)I"⟩
abbrev cX4_take : ByteArray := prog_1_method_6_code
def yX4_take : MethodName := ⟨RX4, "take", "(II)I"⟩
abbrev cX4_show : ByteArray := prog_1_method_7_code
def yX4_show : MethodName := ⟨RX4, "show", "(III)I"⟩
abbrev cX4_like : ByteArray := prog_1_method_8_code
def yX4_like : MethodName := ⟨RX4, "like", "(II)I"⟩
abbrev cX4_of : ByteArray := prog_1_method_9_code
def yX4_of : MethodName := ⟨RX4, "of", "(II)I"⟩
abbrev cX4_told : ByteArray := prog_1_method_10_code
def yX4_told : MethodName := ⟨RX4, "told", "(II)I"⟩
abbrev cX4_thingOf : ByteArray := prog_1_method_11_code
def yX4_thingOf : MethodName := ⟨RX4, "thingOf", "(II)I"⟩
abbrev cX4_ahead : ByteArray := prog_1_method_12_code
def yX4_ahead : MethodName := ⟨RX4, "ahead", "(II)I"⟩
abbrev cX4_clash : ByteArray := prog_1_method_13_code
def yX4_clash : MethodName := ⟨RX4, "clash", "(III)I"⟩
abbrev cX4_noise : ByteArray := prog_1_method_14_code
def yX4_noise : MethodName := ⟨RX4, "noise", "(II)I"⟩
abbrev cX4_cost : ByteArray := prog_1_method_15_code
def yX4_cost : MethodName := ⟨RX4, "cost", "()I"⟩
abbrev cX4_cut : ByteArray := prog_1_method_16_code
def yX4_cut : MethodName := ⟨RX4, "cut", "(I)I"⟩
abbrev cX4_choose : ByteArray := prog_1_method_17_code
def yX4_choose : MethodName := ⟨RX4, "choose", "(II)I"⟩
abbrev cX4_adopt : ByteArray := prog_1_method_18_code
def yX4_adopt : MethodName := ⟨RX4, "adopt", "()I"⟩
abbrev cX4_chosen : ByteArray := prog_1_method_19_code
def yX4_chosen : MethodName := ⟨RX4, "chosen", "()I"⟩
abbrev cX4_span : ByteArray := prog_1_method_20_code
def yX4_span : MethodName := ⟨RX4, "span", "(III)I"⟩
abbrev cX4_twin : ByteArray := prog_1_method_21_code
def yX4_twin : MethodName := ⟨RX4, "twin", "(III)I"⟩
abbrev cX4_doubles : ByteArray := prog_1_method_22_code
def yX4_doubles : MethodName := ⟨RX4, "doubles", "(II)I"⟩
abbrev cX4_reshoot : ByteArray := prog_1_method_23_code
def yX4_reshoot : MethodName := ⟨RX4, "reshoot", "()I"⟩
abbrev cX4_clashes : ByteArray := prog_1_method_24_code
def yX4_clashes : MethodName := ⟨RX4, "clashes", "(I)I"⟩
abbrev cX4_many : ByteArray := prog_1_method_25_code
def yX4_many : MethodName := ⟨RX4, "many", "(I)I"⟩
abbrev cX4_keep : ByteArray := prog_1_method_26_code
def yX4_keep : MethodName := ⟨RX4, "keep", "()I"⟩
abbrev cX4_back : ByteArray := prog_1_method_27_code
def yX4_back : MethodName := ⟨RX4, "back", "()I"⟩
abbrev cX4_isBetween : ByteArray := prog_1_method_28_code
def yX4_isBetween : MethodName := ⟨RX4, "isBetween", "(III)Z"⟩
abbrev cX4_isDayAndPlace : ByteArray := prog_1_method_29_code
def yX4_isDayAndPlace : MethodName := ⟨RX4, "isDayAndPlace", "(II)Z"⟩
abbrev cX4_isLawWithRate : ByteArray := prog_1_method_30_code
def yX4_isLawWithRate : MethodName := ⟨RX4, "isLawWithRate", "(II)Z"⟩
abbrev cX4_isIn : ByteArray := prog_1_method_31_code
def yX4_isIn : MethodName := ⟨RX4, "isIn", "(II)Z"⟩
abbrev cX4_orNone : ByteArray := prog_1_method_32_code
def yX4_orNone : MethodName := ⟨RX4, "orNone", "(I)I"⟩
abbrev cX4_measureAsked : ByteArray := prog_1_method_33_code
def yX4_measureAsked : MethodName := ⟨RX4, "measureAsked", "(II)I"⟩
abbrev cX4_doublesOrRefusal : ByteArray := prog_1_method_34_code
def yX4_doublesOrRefusal : MethodName := ⟨RX4, "doublesOrRefusal", "(II)I"⟩
def RX5 : String := "ShotBookModel"
def TX5 : u_T := fun k => match k with
  | 0 => ("ShotBookModel", "scenes", "I", false)
  | 1 => ("ShotBookModel", "days", "[I", true)
  | 2 => ("ShotBookModel", "places", "[I", true)
  | 3 => ("ShotBookModel", "chosen", "[I", true)
  | 4 => ("ShotBookModel", "things", "I", false)
  | 5 => ("ShotBookModel", "laws", "[I", true)
  | 6 => ("ShotBookModel", "rates", "[I", true)
  | 7 => ("ShotBookModel", "louds", "[I", true)
  | 8 => ("ShotBookModel", "takes", "I", false)
  | 9 => ("ShotBookModel", "sceneOf", "[I", true)
  | 10 => ("ShotBookModel", "flaws", "[I", true)
  | 11 => ("ShotBookModel", "shows", "[I", true)
  | 12 => ("ShotBookModel", "isKept", "Z", false)
  | 13 => ("ShotBookModel", "keptNumbers", "[I", true)
  | 14 => ("ShotBookModel", "keptScenes", "[I", true)
  | 15 => ("ShotBookModel", "keptTakes", "[I", true)
  | 16 => ("ShotBookModel", "choice", "[I", true)
  | 17 => ("ShotBookModel", "best", "[I", true)
  | 18 => ("ShotBookModel", "noises", "[I", true)
  | 19 => ("ShotBookModel", "bestCost", "I", false)
  | 20 => ("ShotBookModel", "low", "I", false)
  | 21 => ("ShotBookModel", "high", "I", false)
  | 22 => ("ShotBookModel", "measures", "I", false)
  | 23 => ("ShotBookModel", "lows", "[I", true)
  | 24 => ("ShotBookModel", "highs", "[I", true)
  | 25 => ("ShotBookModel", "twins", "I", false)
  | _ => ("ShotBookModel", "found", "[I", true)
def tyX5 : Nat → FieldType := fun k => match k with
  | 0 => .int
  | 1 => .array .int
  | 2 => .array .int
  | 3 => .array .int
  | 4 => .int
  | 5 => .array .int
  | 6 => .array .int
  | 7 => .array .int
  | 8 => .int
  | 9 => .array .int
  | 10 => .array .int
  | 11 => .array .int
  | 12 => .boolean
  | 13 => .array .int
  | 14 => .array .int
  | 15 => .array .int
  | 16 => .array .int
  | 17 => .array .int
  | 18 => .array .int
  | 19 => .int
  | 20 => .int
  | 21 => .int
  | 22 => .int
  | 23 => .array .int
  | 24 => .array .int
  | 25 => .int
  | _ => .array .int
theorem nmX5 : ∀ a, a < 27 → ∀ b, b < 27 → a ≠ b → (TX5 a).2.1 ≠ (TX5 b).2.1 := by decide +kernel
theorem tyX5_ok : ∀ k, k < 27 → parseFieldDescriptor (TX5 k).2.2.1 = some (tyX5 k) := by decide +kernel
abbrev cX5_init : ByteArray := prog_7_method_1_code
def yX5_init : MethodName := ⟨RX5, "<init>", "()V"⟩
abbrev cX5_in : ByteArray := prog_7_method_2_code
def yX5_in : MethodName := ⟨RX5, "in", "(III)Z"⟩
abbrev cX5_isScene : ByteArray := prog_7_method_3_code
def yX5_isScene : MethodName := ⟨RX5, "isScene", "(I)Z"⟩
abbrev cX5_isThing : ByteArray := prog_7_method_4_code
def yX5_isThing : MethodName := ⟨RX5, "isThing", "(I)Z"⟩
abbrev cX5_isTake : ByteArray := prog_7_method_5_code
def yX5_isTake : MethodName := ⟨RX5, "isTake", "(I)Z"⟩
abbrev cX5_scene : ByteArray := prog_7_method_6_code
def yX5_scene : MethodName := ⟨RX5, "scene", "(II)I"⟩
abbrev cX5_shift : ByteArray := prog_7_method_7_code
def yX5_shift : MethodName := ⟨RX5, "shift", "(III)I"⟩
abbrev cX5_thing : ByteArray := prog_7_method_8_code
def yX5_thing : MethodName := ⟨RX5, "thing", "(III)I"⟩
abbrev cX5_loud : ByteArray := prog_7_method_9_code
def yX5_loud : MethodName := ⟨RX5, "loud", "(II)I"⟩
abbrev cX5_takesOf : ByteArray := prog_7_method_10_code
def yX5_takesOf : MethodName := ⟨RX5, "takesOf", "(I)I"⟩
abbrev cX5_take : ByteArray := prog_7_method_11_code
def yX5_take : MethodName := ⟨RX5, "take", "(II)I"⟩
abbrev cX5_show : ByteArray := prog_7_method_12_code
def yX5_show : MethodName := ⟨RX5, "show", "(III)I"⟩
abbrev cX5_like : ByteArray := prog_7_method_13_code
def yX5_like : MethodName := ⟨RX5, "like", "(II)I"⟩
abbrev cX5_of : ByteArray := prog_7_method_14_code
def yX5_of : MethodName := ⟨RX5, "of", "(II)I"⟩
abbrev cX5_told : ByteArray := prog_7_method_15_code
def yX5_told : MethodName := ⟨RX5, "told", "(II)I"⟩
abbrev cX5_thingOf : ByteArray := prog_7_method_16_code
def yX5_thingOf : MethodName := ⟨RX5, "thingOf", "(II)I"⟩
abbrev cX5_isAhead : ByteArray := prog_7_method_17_code
def yX5_isAhead : MethodName := ⟨RX5, "isAhead", "(II)Z"⟩
abbrev cX5_ahead : ByteArray := prog_7_method_18_code
def yX5_ahead : MethodName := ⟨RX5, "ahead", "(II)I"⟩
abbrev cX5_quarrels : ByteArray := prog_7_method_19_code
def yX5_quarrels : MethodName := ⟨RX5, "quarrels", "(IIIII)Z"⟩
abbrev cX5_breaks : ByteArray := prog_7_method_20_code
def yX5_breaks : MethodName := ⟨RX5, "breaks", "(IIII)Z"⟩
abbrev cX5_doClash : ByteArray := prog_7_method_21_code
def yX5_doClash : MethodName := ⟨RX5, "doClash", "(III)Z"⟩
abbrev cX5_clash : ByteArray := prog_7_method_22_code
def yX5_clash : MethodName := ⟨RX5, "clash", "(III)I"⟩
abbrev cX5_noiseOf : ByteArray := prog_7_method_23_code
def yX5_noiseOf : MethodName := ⟨RX5, "noiseOf", "(II)I"⟩
abbrev cX5_noise : ByteArray := prog_7_method_24_code
def yX5_noise : MethodName := ⟨RX5, "noise", "(II)I"⟩
abbrev cX5_costOf : ByteArray := prog_7_method_25_code
def yX5_costOf : MethodName := ⟨RX5, "costOf", "([I)I"⟩
abbrev cX5_findNoises : ByteArray := prog_7_method_26_code
def yX5_findNoises : MethodName := ⟨RX5, "findNoises", "()V"⟩
abbrev cX5_nextTake : ByteArray := prog_7_method_27_code
def yX5_nextTake : MethodName := ⟨RX5, "nextTake", "(II)I"⟩
abbrev cX5_findCut : ByteArray := prog_7_method_28_code
def yX5_findCut : MethodName := ⟨RX5, "findCut", "()V"⟩
abbrev cX5_cost : ByteArray := prog_7_method_29_code
def yX5_cost : MethodName := ⟨RX5, "cost", "()I"⟩
abbrev cX5_cut : ByteArray := prog_7_method_30_code
def yX5_cut : MethodName := ⟨RX5, "cut", "(I)I"⟩
abbrev cX5_choose : ByteArray := prog_7_method_31_code
def yX5_choose : MethodName := ⟨RX5, "choose", "(II)I"⟩
abbrev cX5_adopt : ByteArray := prog_7_method_32_code
def yX5_adopt : MethodName := ⟨RX5, "adopt", "()I"⟩
abbrev cX5_chosen : ByteArray := prog_7_method_33_code
def yX5_chosen : MethodName := ⟨RX5, "chosen", "()I"⟩
abbrev cX5_maySee : ByteArray := prog_7_method_34_code
def yX5_maySee : MethodName := ⟨RX5, "maySee", "(III)Z"⟩
abbrev cX5_findSpan : ByteArray := prog_7_method_35_code
def yX5_findSpan : MethodName := ⟨RX5, "findSpan", "(II)V"⟩
abbrev cX5_span : ByteArray := prog_7_method_36_code
def yX5_span : MethodName := ⟨RX5, "span", "(III)I"⟩
abbrev cX5_findDoubles : ByteArray := prog_7_method_37_code
def yX5_findDoubles : MethodName := ⟨RX5, "findDoubles", "(II)Z"⟩
abbrev cX5_isSet : ByteArray := prog_7_method_38_code
def yX5_isSet : MethodName := ⟨RX5, "isSet", "(I)Z"⟩
abbrev cX5_twin : ByteArray := prog_7_method_39_code
def yX5_twin : MethodName := ⟨RX5, "twin", "(III)I"⟩
abbrev cX5_doubles : ByteArray := prog_7_method_40_code
def yX5_doubles : MethodName := ⟨RX5, "doubles", "(II)I"⟩
abbrev cX5_areQuiet : ByteArray := prog_7_method_41_code
def yX5_areQuiet : MethodName := ⟨RX5, "areQuiet", "(I)Z"⟩
abbrev cX5_manyOf : ByteArray := prog_7_method_42_code
def yX5_manyOf : MethodName := ⟨RX5, "manyOf", "(I)I"⟩
abbrev cX5_reshoot : ByteArray := prog_7_method_43_code
def yX5_reshoot : MethodName := ⟨RX5, "reshoot", "()I"⟩
abbrev cX5_clashes : ByteArray := prog_7_method_44_code
def yX5_clashes : MethodName := ⟨RX5, "clashes", "(I)I"⟩
abbrev cX5_pairs : ByteArray := prog_7_method_45_code
def yX5_pairs : MethodName := ⟨RX5, "pairs", "()I"⟩
abbrev cX5_withChosen : ByteArray := prog_7_method_46_code
def yX5_withChosen : MethodName := ⟨RX5, "withChosen", "()I"⟩
abbrev cX5_many : ByteArray := prog_7_method_47_code
def yX5_many : MethodName := ⟨RX5, "many", "(I)I"⟩
abbrev cX5_copy : ByteArray := prog_7_method_48_code
def yX5_copy : MethodName := ⟨RX5, "copy", "([II[III)V"⟩
abbrev cX5_keep : ByteArray := prog_7_method_49_code
def yX5_keep : MethodName := ⟨RX5, "keep", "()I"⟩
abbrev cX5_back : ByteArray := prog_7_method_50_code
def yX5_back : MethodName := ⟨RX5, "back", "()I"⟩
def RJ6 : String := "java/lang/Integer"
def TJ6 : u_T := fun k => match k with
  | _ => ("", "", "", false)
def tyJ6 : Nat → FieldType := fun k => match k with
  | _ => .int
theorem nmJ6 : ∀ a, a < 0 → ∀ b, b < 0 → a ≠ b → (TJ6 a).2.1 ≠ (TJ6 b).2.1 := by decide +kernel
theorem tyJ6_ok : ∀ k, k < 0 → parseFieldDescriptor (TJ6 k).2.2.1 = some (tyJ6 k) := by decide +kernel
abbrev cJ6_bitCount_0f7a4 : ByteArray := prog_8_method_49_code
def yJ6_bitCount_0f7a4 : MethodName := ⟨RJ6, "bitCount", "(I)I"⟩
def RJ9 : String := "java/lang/Math"
def TJ9 : u_T := fun k => match k with
  | _ => ("", "", "", false)
def tyJ9 : Nat → FieldType := fun k => match k with
  | _ => .int
theorem nmJ9 : ∀ a, a < 0 → ∀ b, b < 0 → a ≠ b → (TJ9 a).2.1 ≠ (TJ9 b).2.1 := by decide +kernel
theorem tyJ9_ok : ∀ k, k < 0 → parseFieldDescriptor (TJ9 k).2.2.1 = some (tyJ9 k) := by decide +kernel
abbrev cJ9_max_7cf53 : ByteArray := prog_9_method_65_code
def yJ9_max_7cf53 : MethodName := ⟨RJ9, "max", "(II)I"⟩
abbrev cJ9_min_7cf53 : ByteArray := prog_9_method_69_code
def yJ9_min_7cf53 : MethodName := ⟨RJ9, "min", "(II)I"⟩
def RJ10 : String := "java/lang/System"
def TJ10 : u_T := fun k => match k with
  | _ => ("", "", "", false)
def tyJ10 : Nat → FieldType := fun k => match k with
  | _ => .int
theorem nmJ10 : ∀ a, a < 0 → ∀ b, b < 0 → a ≠ b → (TJ10 a).2.1 ≠ (TJ10 b).2.1 := by decide +kernel
theorem tyJ10_ok : ∀ k, k < 0 → parseFieldDescriptor (TJ10 k).2.2.1 = some (tyJ10 k) := by decide +kernel
def RJ7 : String := "java/util/Arrays"
def TJ7 : u_T := fun k => match k with
  | _ => ("", "", "", false)
def tyJ7 : Nat → FieldType := fun k => match k with
  | _ => .int
theorem nmJ7 : ∀ a, a < 0 → ∀ b, b < 0 → a ≠ b → (TJ7 a).2.1 ≠ (TJ7 b).2.1 := by decide +kernel
theorem tyJ7_ok : ∀ k, k < 0 → parseFieldDescriptor (TJ7 k).2.2.1 = some (tyJ7 k) := by decide +kernel
abbrev cJ7_fill_53178 : ByteArray := prog_11_method_103_code
def yJ7_fill_53178 : MethodName := ⟨RJ7, "fill", "([II)V"⟩
def RL : String := "ShotBookLaw"
abbrev cL_law : ByteArray := code
def yL_law : MethodName := ⟨RL, "law", "([I)Z"⟩
abbrev vwCl : List vw_C := [(RX0, TX0, 4), (RX1, TX1, 1), (RX2, TX2, 3), (RX3, TX3, 12), (RX4, TX4, 6), (RX5, TX5, 27)]
end
section
theorem dX0_init_0 : decode cX0_init 0 = .ok (.aload_n 0, 1) := by decide +kernel
theorem dX0_init_1 : decode cX0_init 1 = .ok (.invokespecial 3, 3) := by decide +kernel
theorem dX0_init_4 : decode cX0_init 4 = .ok (.aload_n 0, 1) := by decide +kernel
theorem dX0_init_5 : decode cX0_init 5 = .ok (.iconst 0, 1) := by decide +kernel
theorem dX0_init_6 : decode cX0_init 6 = .ok (.putfield 9, 3) := by decide +kernel
theorem dX0_init_9 : decode cX0_init 9 = .ok (.aload_n 0, 1) := by decide +kernel
theorem dX0_init_10 : decode cX0_init 10 = .ok (.bipush 6, 2) := by decide +kernel
theorem dX0_init_12 : decode cX0_init 12 = .ok (.newarray .int, 2) := by decide +kernel
theorem dX0_init_14 : decode cX0_init 14 = .ok (.putfield 15, 3) := by decide +kernel
theorem dX0_init_17 : decode cX0_init 17 = .ok (.aload_n 0, 1) := by decide +kernel
theorem dX0_init_18 : decode cX0_init 18 = .ok (.bipush 6, 2) := by decide +kernel
theorem dX0_init_20 : decode cX0_init 20 = .ok (.newarray .int, 2) := by decide +kernel
theorem dX0_init_22 : decode cX0_init 22 = .ok (.putfield 19, 3) := by decide +kernel
theorem dX0_init_25 : decode cX0_init 25 = .ok (.aload_n 0, 1) := by decide +kernel
theorem dX0_init_26 : decode cX0_init 26 = .ok (.sipush 256, 3) := by decide +kernel
theorem dX0_init_29 : decode cX0_init 29 = .ok (.newarray .int, 2) := by decide +kernel
theorem dX0_init_31 : decode cX0_init 31 = .ok (.putfield 22, 3) := by decide +kernel
theorem dX0_init_34 : decode cX0_init 34 = .ok (.return_, 1) := by decide +kernel
theorem dX0_find_0 : decode cX0_find 0 = .ok (.aload_n 0, 1) := by decide +kernel
theorem dX0_find_1 : decode cX0_find 1 = .ok (.aload_n 1, 1) := by decide +kernel
theorem dX0_find_2 : decode cX0_find 2 = .ok (.invokevirtual 25, 3) := by decide +kernel
theorem dX0_find_5 : decode cX0_find 5 = .ok (.aload_n 0, 1) := by decide +kernel
theorem dX0_find_6 : decode cX0_find 6 = .ok (.ldc 31, 2) := by decide +kernel
theorem dX0_find_8 : decode cX0_find 8 = .ok (.putfield 9, 3) := by decide +kernel
theorem dX0_find_11 : decode cX0_find 11 = .ok (.aload_n 0, 1) := by decide +kernel
theorem dX0_find_12 : decode cX0_find 12 = .ok (.aload_n 1, 1) := by decide +kernel
theorem dX0_find_13 : decode cX0_find 13 = .ok (.iconst 0, 1) := by decide +kernel
theorem dX0_find_14 : decode cX0_find 14 = .ok (.iconst 0, 1) := by decide +kernel
theorem dX0_find_15 : decode cX0_find 15 = .ok (.invokestatic 32, 3) := by decide +kernel
theorem dX0_find_18 : decode cX0_find 18 = .ok (.return_, 1) := by decide +kernel
theorem dX0_reckonNoises_0 : decode cX0_reckonNoises 0 = .ok (.iconst 0, 1) := by decide +kernel
theorem dX0_reckonNoises_1 : decode cX0_reckonNoises 1 = .ok (.istore_n 2, 1) := by decide +kernel
theorem dX0_reckonNoises_2 : decode cX0_reckonNoises 2 = .ok (.iload_n 2, 1) := by decide +kernel
theorem dX0_reckonNoises_3 : decode cX0_reckonNoises 3 = .ok (.aload_n 1, 1) := by decide +kernel
theorem dX0_reckonNoises_4 : decode cX0_reckonNoises 4 = .ok (.getfield 36, 3) := by decide +kernel
theorem dX0_reckonNoises_7 : decode cX0_reckonNoises 7 = .ok (.if_icmp .ge 56, 3) := by decide +kernel
theorem dX0_reckonNoises_10 : decode cX0_reckonNoises 10 = .ok (.iconst 0, 1) := by decide +kernel
theorem dX0_reckonNoises_11 : decode cX0_reckonNoises 11 = .ok (.istore_n 3, 1) := by decide +kernel
theorem dX0_reckonNoises_12 : decode cX0_reckonNoises 12 = .ok (.iload_n 3, 1) := by decide +kernel
theorem dX0_reckonNoises_13 : decode cX0_reckonNoises 13 = .ok (.iload_n 2, 1) := by decide +kernel
theorem dX0_reckonNoises_14 : decode cX0_reckonNoises 14 = .ok (.if_icmp .ge 43, 3) := by decide +kernel
theorem dX0_reckonNoises_17 : decode cX0_reckonNoises 17 = .ok (.aload_n 1, 1) := by decide +kernel
theorem dX0_reckonNoises_18 : decode cX0_reckonNoises 18 = .ok (.iload_n 2, 1) := by decide +kernel
theorem dX0_reckonNoises_19 : decode cX0_reckonNoises 19 = .ok (.iload_n 3, 1) := by decide +kernel
theorem dX0_reckonNoises_20 : decode cX0_reckonNoises 20 = .ok (.invokevirtual 41, 3) := by decide +kernel
theorem dX0_reckonNoises_23 : decode cX0_reckonNoises 23 = .ok (.istore 4, 2) := by decide +kernel
theorem dX0_reckonNoises_25 : decode cX0_reckonNoises 25 = .ok (.aload_n 0, 1) := by decide +kernel
theorem dX0_reckonNoises_26 : decode cX0_reckonNoises 26 = .ok (.getfield 22, 3) := by decide +kernel
theorem dX0_reckonNoises_29 : decode cX0_reckonNoises 29 = .ok (.iload_n 2, 1) := by decide +kernel
theorem dX0_reckonNoises_30 : decode cX0_reckonNoises 30 = .ok (.bipush 16, 2) := by decide +kernel
theorem dX0_reckonNoises_32 : decode cX0_reckonNoises 32 = .ok (.imul, 1) := by decide +kernel
theorem dX0_reckonNoises_33 : decode cX0_reckonNoises 33 = .ok (.iload_n 3, 1) := by decide +kernel
theorem dX0_reckonNoises_34 : decode cX0_reckonNoises 34 = .ok (.iadd, 1) := by decide +kernel
theorem dX0_reckonNoises_35 : decode cX0_reckonNoises 35 = .ok (.iload 4, 2) := by decide +kernel
theorem dX0_reckonNoises_37 : decode cX0_reckonNoises 37 = .ok (.iastore, 1) := by decide +kernel
theorem dX0_reckonNoises_38 : decode cX0_reckonNoises 38 = .ok (.aload_n 0, 1) := by decide +kernel
theorem dX0_reckonNoises_39 : decode cX0_reckonNoises 39 = .ok (.getfield 22, 3) := by decide +kernel
theorem dX0_reckonNoises_42 : decode cX0_reckonNoises 42 = .ok (.iload_n 3, 1) := by decide +kernel
theorem dX0_reckonNoises_43 : decode cX0_reckonNoises 43 = .ok (.bipush 16, 2) := by decide +kernel
theorem dX0_reckonNoises_45 : decode cX0_reckonNoises 45 = .ok (.imul, 1) := by decide +kernel
theorem dX0_reckonNoises_46 : decode cX0_reckonNoises 46 = .ok (.iload_n 2, 1) := by decide +kernel
theorem dX0_reckonNoises_47 : decode cX0_reckonNoises 47 = .ok (.iadd, 1) := by decide +kernel
theorem dX0_reckonNoises_48 : decode cX0_reckonNoises 48 = .ok (.iload 4, 2) := by decide +kernel
theorem dX0_reckonNoises_50 : decode cX0_reckonNoises 50 = .ok (.iastore, 1) := by decide +kernel
theorem dX0_reckonNoises_51 : decode cX0_reckonNoises 51 = .ok (.iinc 3 1, 3) := by decide +kernel
theorem dX0_reckonNoises_54 : decode cX0_reckonNoises 54 = .ok (.goto (-42), 3) := by decide +kernel
theorem dX0_reckonNoises_57 : decode cX0_reckonNoises 57 = .ok (.iinc 2 1, 3) := by decide +kernel
theorem dX0_reckonNoises_60 : decode cX0_reckonNoises 60 = .ok (.goto (-58), 3) := by decide +kernel
theorem dX0_reckonNoises_63 : decode cX0_reckonNoises 63 = .ok (.return_, 1) := by decide +kernel
theorem dX0_tryFrom_0 : decode cX0_tryFrom 0 = .ok (.iload_n 3, 1) := by decide +kernel
theorem dX0_tryFrom_1 : decode cX0_tryFrom 1 = .ok (.aload_n 0, 1) := by decide +kernel
theorem dX0_tryFrom_2 : decode cX0_tryFrom 2 = .ok (.getfield 9, 3) := by decide +kernel
theorem dX0_tryFrom_5 : decode cX0_tryFrom 5 = .ok (.if_icmp .lt 4, 3) := by decide +kernel
theorem dX0_tryFrom_8 : decode cX0_tryFrom 8 = .ok (.return_, 1) := by decide +kernel
theorem dX0_tryFrom_9 : decode cX0_tryFrom 9 = .ok (.iload_n 2, 1) := by decide +kernel
theorem dX0_tryFrom_10 : decode cX0_tryFrom 10 = .ok (.aload_n 1, 1) := by decide +kernel
theorem dX0_tryFrom_11 : decode cX0_tryFrom 11 = .ok (.getfield 45, 3) := by decide +kernel
theorem dX0_tryFrom_14 : decode cX0_tryFrom 14 = .ok (.if_icmp .ge 9, 3) := by decide +kernel
theorem dX0_tryFrom_17 : decode cX0_tryFrom 17 = .ok (.iload_n 2, 1) := by decide +kernel
theorem dX0_tryFrom_18 : decode cX0_tryFrom 18 = .ok (.bipush 6, 2) := by decide +kernel
theorem dX0_tryFrom_20 : decode cX0_tryFrom 20 = .ok (.if_icmp .lt 24, 3) := by decide +kernel
theorem dX0_tryFrom_23 : decode cX0_tryFrom 23 = .ok (.aload_n 0, 1) := by decide +kernel
theorem dX0_tryFrom_24 : decode cX0_tryFrom 24 = .ok (.iload_n 3, 1) := by decide +kernel
theorem dX0_tryFrom_25 : decode cX0_tryFrom 25 = .ok (.putfield 9, 3) := by decide +kernel
theorem dX0_tryFrom_28 : decode cX0_tryFrom 28 = .ok (.aload_n 0, 1) := by decide +kernel
theorem dX0_tryFrom_29 : decode cX0_tryFrom 29 = .ok (.getfield 19, 3) := by decide +kernel
theorem dX0_tryFrom_32 : decode cX0_tryFrom 32 = .ok (.iconst 0, 1) := by decide +kernel
theorem dX0_tryFrom_33 : decode cX0_tryFrom 33 = .ok (.aload_n 0, 1) := by decide +kernel
theorem dX0_tryFrom_34 : decode cX0_tryFrom 34 = .ok (.getfield 15, 3) := by decide +kernel
theorem dX0_tryFrom_37 : decode cX0_tryFrom 37 = .ok (.iconst 0, 1) := by decide +kernel
theorem dX0_tryFrom_38 : decode cX0_tryFrom 38 = .ok (.bipush 6, 2) := by decide +kernel
theorem dX0_tryFrom_40 : decode cX0_tryFrom 40 = .ok (.invokestatic 48, 3) := by decide +kernel
theorem dX0_tryFrom_43 : decode cX0_tryFrom 43 = .ok (.return_, 1) := by decide +kernel
theorem dX0_tryFrom_44 : decode cX0_tryFrom 44 = .ok (.iconst 0, 1) := by decide +kernel
theorem dX0_tryFrom_45 : decode cX0_tryFrom 45 = .ok (.istore 4, 2) := by decide +kernel
theorem dX0_tryFrom_47 : decode cX0_tryFrom 47 = .ok (.iconst 0, 1) := by decide +kernel
theorem dX0_tryFrom_48 : decode cX0_tryFrom 48 = .ok (.istore 5, 2) := by decide +kernel
theorem dX0_tryFrom_50 : decode cX0_tryFrom 50 = .ok (.iload 5, 2) := by decide +kernel
theorem dX0_tryFrom_52 : decode cX0_tryFrom 52 = .ok (.aload_n 1, 1) := by decide +kernel
theorem dX0_tryFrom_53 : decode cX0_tryFrom 53 = .ok (.getfield 36, 3) := by decide +kernel
theorem dX0_tryFrom_56 : decode cX0_tryFrom 56 = .ok (.if_icmp .ge 56, 3) := by decide +kernel
theorem dX0_tryFrom_59 : decode cX0_tryFrom 59 = .ok (.aload_n 1, 1) := by decide +kernel
theorem dX0_tryFrom_60 : decode cX0_tryFrom 60 = .ok (.getfield 54, 3) := by decide +kernel
theorem dX0_tryFrom_63 : decode cX0_tryFrom 63 = .ok (.iload 5, 2) := by decide +kernel
theorem dX0_tryFrom_65 : decode cX0_tryFrom 65 = .ok (.iaload, 1) := by decide +kernel
theorem dX0_tryFrom_66 : decode cX0_tryFrom 66 = .ok (.iload_n 2, 1) := by decide +kernel
theorem dX0_tryFrom_67 : decode cX0_tryFrom 67 = .ok (.if_icmp .ne 39, 3) := by decide +kernel
theorem dX0_tryFrom_70 : decode cX0_tryFrom 70 = .ok (.iconst 1, 1) := by decide +kernel
theorem dX0_tryFrom_71 : decode cX0_tryFrom 71 = .ok (.istore 4, 2) := by decide +kernel
theorem dX0_tryFrom_73 : decode cX0_tryFrom 73 = .ok (.aload_n 0, 1) := by decide +kernel
theorem dX0_tryFrom_74 : decode cX0_tryFrom 74 = .ok (.getfield 19, 3) := by decide +kernel
theorem dX0_tryFrom_77 : decode cX0_tryFrom 77 = .ok (.iload_n 2, 1) := by decide +kernel
theorem dX0_tryFrom_78 : decode cX0_tryFrom 78 = .ok (.iload 5, 2) := by decide +kernel
theorem dX0_tryFrom_80 : decode cX0_tryFrom 80 = .ok (.iastore, 1) := by decide +kernel
theorem dX0_tryFrom_81 : decode cX0_tryFrom 81 = .ok (.aload_n 0, 1) := by decide +kernel
theorem dX0_tryFrom_82 : decode cX0_tryFrom 82 = .ok (.aload_n 1, 1) := by decide +kernel
theorem dX0_tryFrom_83 : decode cX0_tryFrom 83 = .ok (.iload_n 2, 1) := by decide +kernel
theorem dX0_tryFrom_84 : decode cX0_tryFrom 84 = .ok (.iconst 1, 1) := by decide +kernel
theorem dX0_tryFrom_85 : decode cX0_tryFrom 85 = .ok (.iadd, 1) := by decide +kernel
theorem dX0_tryFrom_86 : decode cX0_tryFrom 86 = .ok (.iload_n 3, 1) := by decide +kernel
theorem dX0_tryFrom_87 : decode cX0_tryFrom 87 = .ok (.aload_n 1, 1) := by decide +kernel
theorem dX0_tryFrom_88 : decode cX0_tryFrom 88 = .ok (.getfield 57, 3) := by decide +kernel
theorem dX0_tryFrom_91 : decode cX0_tryFrom 91 = .ok (.iload 5, 2) := by decide +kernel
theorem dX0_tryFrom_93 : decode cX0_tryFrom 93 = .ok (.iaload, 1) := by decide +kernel
theorem dX0_tryFrom_94 : decode cX0_tryFrom 94 = .ok (.iadd, 1) := by decide +kernel
theorem dX0_tryFrom_95 : decode cX0_tryFrom 95 = .ok (.aload_n 0, 1) := by decide +kernel
theorem dX0_tryFrom_96 : decode cX0_tryFrom 96 = .ok (.iload_n 2, 1) := by decide +kernel
theorem dX0_tryFrom_97 : decode cX0_tryFrom 97 = .ok (.iload 5, 2) := by decide +kernel
theorem dX0_tryFrom_99 : decode cX0_tryFrom 99 = .ok (.invokevirtual 60, 3) := by decide +kernel
theorem dX0_tryFrom_102 : decode cX0_tryFrom 102 = .ok (.iadd, 1) := by decide +kernel
theorem dX0_tryFrom_103 : decode cX0_tryFrom 103 = .ok (.invokestatic 32, 3) := by decide +kernel
theorem dX0_tryFrom_106 : decode cX0_tryFrom 106 = .ok (.iinc 5 1, 3) := by decide +kernel
theorem dX0_tryFrom_109 : decode cX0_tryFrom 109 = .ok (.goto (-59), 3) := by decide +kernel
theorem dX0_tryFrom_112 : decode cX0_tryFrom 112 = .ok (.iload 4, 2) := by decide +kernel
theorem dX0_tryFrom_114 : decode cX0_tryFrom 114 = .ok (.ifCond .ne 19, 3) := by decide +kernel
theorem dX0_tryFrom_117 : decode cX0_tryFrom 117 = .ok (.aload_n 0, 1) := by decide +kernel
theorem dX0_tryFrom_118 : decode cX0_tryFrom 118 = .ok (.getfield 19, 3) := by decide +kernel
theorem dX0_tryFrom_121 : decode cX0_tryFrom 121 = .ok (.iload_n 2, 1) := by decide +kernel
theorem dX0_tryFrom_122 : decode cX0_tryFrom 122 = .ok (.iconst (-1), 1) := by decide +kernel
theorem dX0_tryFrom_123 : decode cX0_tryFrom 123 = .ok (.iastore, 1) := by decide +kernel
theorem dX0_tryFrom_124 : decode cX0_tryFrom 124 = .ok (.aload_n 0, 1) := by decide +kernel
theorem dX0_tryFrom_125 : decode cX0_tryFrom 125 = .ok (.aload_n 1, 1) := by decide +kernel
theorem dX0_tryFrom_126 : decode cX0_tryFrom 126 = .ok (.iload_n 2, 1) := by decide +kernel
theorem dX0_tryFrom_127 : decode cX0_tryFrom 127 = .ok (.iconst 1, 1) := by decide +kernel
theorem dX0_tryFrom_128 : decode cX0_tryFrom 128 = .ok (.iadd, 1) := by decide +kernel
theorem dX0_tryFrom_129 : decode cX0_tryFrom 129 = .ok (.iload_n 3, 1) := by decide +kernel
theorem dX0_tryFrom_130 : decode cX0_tryFrom 130 = .ok (.invokestatic 32, 3) := by decide +kernel
theorem dX0_tryFrom_133 : decode cX0_tryFrom 133 = .ok (.return_, 1) := by decide +kernel
theorem dX0_noiseWithEarlier_0 : decode cX0_noiseWithEarlier 0 = .ok (.iconst 0, 1) := by decide +kernel
theorem dX0_noiseWithEarlier_1 : decode cX0_noiseWithEarlier 1 = .ok (.istore_n 3, 1) := by decide +kernel
theorem dX0_noiseWithEarlier_2 : decode cX0_noiseWithEarlier 2 = .ok (.iconst 0, 1) := by decide +kernel
theorem dX0_noiseWithEarlier_3 : decode cX0_noiseWithEarlier 3 = .ok (.istore 4, 2) := by decide +kernel
theorem dX0_noiseWithEarlier_5 : decode cX0_noiseWithEarlier 5 = .ok (.iload 4, 2) := by decide +kernel
theorem dX0_noiseWithEarlier_7 : decode cX0_noiseWithEarlier 7 = .ok (.iload_n 1, 1) := by decide +kernel
theorem dX0_noiseWithEarlier_8 : decode cX0_noiseWithEarlier 8 = .ok (.if_icmp .ge 40, 3) := by decide +kernel
theorem dX0_noiseWithEarlier_11 : decode cX0_noiseWithEarlier 11 = .ok (.aload_n 0, 1) := by decide +kernel
theorem dX0_noiseWithEarlier_12 : decode cX0_noiseWithEarlier 12 = .ok (.getfield 19, 3) := by decide +kernel
theorem dX0_noiseWithEarlier_15 : decode cX0_noiseWithEarlier 15 = .ok (.iload 4, 2) := by decide +kernel
theorem dX0_noiseWithEarlier_17 : decode cX0_noiseWithEarlier 17 = .ok (.iaload, 1) := by decide +kernel
theorem dX0_noiseWithEarlier_18 : decode cX0_noiseWithEarlier 18 = .ok (.iconst (-1), 1) := by decide +kernel
theorem dX0_noiseWithEarlier_19 : decode cX0_noiseWithEarlier 19 = .ok (.if_icmp .eq 23, 3) := by decide +kernel
theorem dX0_noiseWithEarlier_22 : decode cX0_noiseWithEarlier 22 = .ok (.iload_n 3, 1) := by decide +kernel
theorem dX0_noiseWithEarlier_23 : decode cX0_noiseWithEarlier 23 = .ok (.aload_n 0, 1) := by decide +kernel
theorem dX0_noiseWithEarlier_24 : decode cX0_noiseWithEarlier 24 = .ok (.getfield 22, 3) := by decide +kernel
theorem dX0_noiseWithEarlier_27 : decode cX0_noiseWithEarlier 27 = .ok (.iload_n 2, 1) := by decide +kernel
theorem dX0_noiseWithEarlier_28 : decode cX0_noiseWithEarlier 28 = .ok (.bipush 16, 2) := by decide +kernel
theorem dX0_noiseWithEarlier_30 : decode cX0_noiseWithEarlier 30 = .ok (.imul, 1) := by decide +kernel
theorem dX0_noiseWithEarlier_31 : decode cX0_noiseWithEarlier 31 = .ok (.aload_n 0, 1) := by decide +kernel
theorem dX0_noiseWithEarlier_32 : decode cX0_noiseWithEarlier 32 = .ok (.getfield 19, 3) := by decide +kernel
theorem dX0_noiseWithEarlier_35 : decode cX0_noiseWithEarlier 35 = .ok (.iload 4, 2) := by decide +kernel
theorem dX0_noiseWithEarlier_37 : decode cX0_noiseWithEarlier 37 = .ok (.iaload, 1) := by decide +kernel
theorem dX0_noiseWithEarlier_38 : decode cX0_noiseWithEarlier 38 = .ok (.iadd, 1) := by decide +kernel
theorem dX0_noiseWithEarlier_39 : decode cX0_noiseWithEarlier 39 = .ok (.iaload, 1) := by decide +kernel
theorem dX0_noiseWithEarlier_40 : decode cX0_noiseWithEarlier 40 = .ok (.iadd, 1) := by decide +kernel
theorem dX0_noiseWithEarlier_41 : decode cX0_noiseWithEarlier 41 = .ok (.istore_n 3, 1) := by decide +kernel
theorem dX0_noiseWithEarlier_42 : decode cX0_noiseWithEarlier 42 = .ok (.iinc 4 1, 3) := by decide +kernel
theorem dX0_noiseWithEarlier_45 : decode cX0_noiseWithEarlier 45 = .ok (.goto (-40), 3) := by decide +kernel
theorem dX0_noiseWithEarlier_48 : decode cX0_noiseWithEarlier 48 = .ok (.iload_n 3, 1) := by decide +kernel
theorem dX0_noiseWithEarlier_49 : decode cX0_noiseWithEarlier 49 = .ok (.ireturn, 1) := by decide +kernel
theorem dX1_init_0 : decode cX1_init 0 = .ok (.aload_n 0, 1) := by decide +kernel
theorem dX1_init_1 : decode cX1_init 1 = .ok (.invokespecial 3, 3) := by decide +kernel
theorem dX1_init_4 : decode cX1_init 4 = .ok (.aload_n 0, 1) := by decide +kernel
theorem dX1_init_5 : decode cX1_init 5 = .ok (.bipush 6, 2) := by decide +kernel
theorem dX1_init_7 : decode cX1_init 7 = .ok (.newarray .int, 2) := by decide +kernel
theorem dX1_init_9 : decode cX1_init 9 = .ok (.putfield 9, 3) := by decide +kernel
theorem dX1_init_12 : decode cX1_init 12 = .ok (.return_, 1) := by decide +kernel
theorem dX1_find_0 : decode cX1_find 0 = .ok (.iconst 0, 1) := by decide +kernel
theorem dX1_find_1 : decode cX1_find 1 = .ok (.istore_n 2, 1) := by decide +kernel
theorem dX1_find_2 : decode cX1_find 2 = .ok (.iload_n 2, 1) := by decide +kernel
theorem dX1_find_3 : decode cX1_find 3 = .ok (.aload_n 1, 1) := by decide +kernel
theorem dX1_find_4 : decode cX1_find 4 = .ok (.getfield 15, 3) := by decide +kernel
theorem dX1_find_7 : decode cX1_find 7 = .ok (.if_icmp .ge 53, 3) := by decide +kernel
theorem dX1_find_10 : decode cX1_find 10 = .ok (.aload_n 0, 1) := by decide +kernel
theorem dX1_find_11 : decode cX1_find 11 = .ok (.getfield 9, 3) := by decide +kernel
theorem dX1_find_14 : decode cX1_find 14 = .ok (.iload_n 2, 1) := by decide +kernel
theorem dX1_find_15 : decode cX1_find 15 = .ok (.iconst 0, 1) := by decide +kernel
theorem dX1_find_16 : decode cX1_find 16 = .ok (.iastore, 1) := by decide +kernel
theorem dX1_find_17 : decode cX1_find 17 = .ok (.iconst 0, 1) := by decide +kernel
theorem dX1_find_18 : decode cX1_find 18 = .ok (.istore_n 3, 1) := by decide +kernel
theorem dX1_find_19 : decode cX1_find 19 = .ok (.iload_n 3, 1) := by decide +kernel
theorem dX1_find_20 : decode cX1_find 20 = .ok (.aload_n 1, 1) := by decide +kernel
theorem dX1_find_21 : decode cX1_find 21 = .ok (.getfield 15, 3) := by decide +kernel
theorem dX1_find_24 : decode cX1_find 24 = .ok (.if_icmp .ge 30, 3) := by decide +kernel
theorem dX1_find_27 : decode cX1_find 27 = .ok (.aload_n 1, 1) := by decide +kernel
theorem dX1_find_28 : decode cX1_find 28 = .ok (.iload_n 2, 1) := by decide +kernel
theorem dX1_find_29 : decode cX1_find 29 = .ok (.iload_n 3, 1) := by decide +kernel
theorem dX1_find_30 : decode cX1_find 30 = .ok (.invokevirtual 21, 3) := by decide +kernel
theorem dX1_find_33 : decode cX1_find 33 = .ok (.ifCond .le 15, 3) := by decide +kernel
theorem dX1_find_36 : decode cX1_find 36 = .ok (.aload_n 0, 1) := by decide +kernel
theorem dX1_find_37 : decode cX1_find 37 = .ok (.getfield 9, 3) := by decide +kernel
theorem dX1_find_40 : decode cX1_find 40 = .ok (.iload_n 2, 1) := by decide +kernel
theorem dX1_find_41 : decode cX1_find 41 = .ok (.dup2, 1) := by decide +kernel
theorem dX1_find_42 : decode cX1_find 42 = .ok (.iaload, 1) := by decide +kernel
theorem dX1_find_43 : decode cX1_find 43 = .ok (.iconst 1, 1) := by decide +kernel
theorem dX1_find_44 : decode cX1_find 44 = .ok (.iload_n 3, 1) := by decide +kernel
theorem dX1_find_45 : decode cX1_find 45 = .ok (.ishl, 1) := by decide +kernel
theorem dX1_find_46 : decode cX1_find 46 = .ok (.ior, 1) := by decide +kernel
theorem dX1_find_47 : decode cX1_find 47 = .ok (.iastore, 1) := by decide +kernel
theorem dX1_find_48 : decode cX1_find 48 = .ok (.iinc 3 1, 3) := by decide +kernel
theorem dX1_find_51 : decode cX1_find 51 = .ok (.goto (-32), 3) := by decide +kernel
theorem dX1_find_54 : decode cX1_find 54 = .ok (.iinc 2 1, 3) := by decide +kernel
theorem dX1_find_57 : decode cX1_find 57 = .ok (.goto (-55), 3) := by decide +kernel
theorem dX1_find_60 : decode cX1_find 60 = .ok (.return_, 1) := by decide +kernel
theorem dX1_leastReshoots_0 : decode cX1_leastReshoots 0 = .ok (.iconst 1, 1) := by decide +kernel
theorem dX1_leastReshoots_1 : decode cX1_leastReshoots 1 = .ok (.iload_n 1, 1) := by decide +kernel
theorem dX1_leastReshoots_2 : decode cX1_leastReshoots 2 = .ok (.ishl, 1) := by decide +kernel
theorem dX1_leastReshoots_3 : decode cX1_leastReshoots 3 = .ok (.iconst 1, 1) := by decide +kernel
theorem dX1_leastReshoots_4 : decode cX1_leastReshoots 4 = .ok (.isub, 1) := by decide +kernel
theorem dX1_leastReshoots_5 : decode cX1_leastReshoots 5 = .ok (.istore_n 2, 1) := by decide +kernel
theorem dX1_leastReshoots_6 : decode cX1_leastReshoots 6 = .ok (.iload_n 2, 1) := by decide +kernel
theorem dX1_leastReshoots_7 : decode cX1_leastReshoots 7 = .ok (.istore_n 3, 1) := by decide +kernel
theorem dX1_leastReshoots_8 : decode cX1_leastReshoots 8 = .ok (.iconst 0, 1) := by decide +kernel
theorem dX1_leastReshoots_9 : decode cX1_leastReshoots 9 = .ok (.istore 4, 2) := by decide +kernel
theorem dX1_leastReshoots_11 : decode cX1_leastReshoots 11 = .ok (.iload 4, 2) := by decide +kernel
theorem dX1_leastReshoots_13 : decode cX1_leastReshoots 13 = .ok (.iload_n 2, 1) := by decide +kernel
theorem dX1_leastReshoots_14 : decode cX1_leastReshoots 14 = .ok (.if_icmp .ge 37, 3) := by decide +kernel
theorem dX1_leastReshoots_17 : decode cX1_leastReshoots 17 = .ok (.iload 4, 2) := by decide +kernel
theorem dX1_leastReshoots_19 : decode cX1_leastReshoots 19 = .ok (.invokestatic 25, 3) := by decide +kernel
theorem dX1_leastReshoots_22 : decode cX1_leastReshoots 22 = .ok (.iload_n 3, 1) := by decide +kernel
theorem dX1_leastReshoots_23 : decode cX1_leastReshoots 23 = .ok (.invokestatic 25, 3) := by decide +kernel
theorem dX1_leastReshoots_26 : decode cX1_leastReshoots 26 = .ok (.if_icmp .ge 19, 3) := by decide +kernel
theorem dX1_leastReshoots_29 : decode cX1_leastReshoots 29 = .ok (.aload_n 0, 1) := by decide +kernel
theorem dX1_leastReshoots_30 : decode cX1_leastReshoots 30 = .ok (.iload_n 2, 1) := by decide +kernel
theorem dX1_leastReshoots_31 : decode cX1_leastReshoots 31 = .ok (.iload 4, 2) := by decide +kernel
theorem dX1_leastReshoots_33 : decode cX1_leastReshoots 33 = .ok (.iconst (-1), 1) := by decide +kernel
theorem dX1_leastReshoots_34 : decode cX1_leastReshoots 34 = .ok (.ixor, 1) := by decide +kernel
theorem dX1_leastReshoots_35 : decode cX1_leastReshoots 35 = .ok (.iand, 1) := by decide +kernel
theorem dX1_leastReshoots_36 : decode cX1_leastReshoots 36 = .ok (.invokevirtual 31, 3) := by decide +kernel
theorem dX1_leastReshoots_39 : decode cX1_leastReshoots 39 = .ok (.ifCond .eq 6, 3) := by decide +kernel
theorem dX1_leastReshoots_42 : decode cX1_leastReshoots 42 = .ok (.iload 4, 2) := by decide +kernel
theorem dX1_leastReshoots_44 : decode cX1_leastReshoots 44 = .ok (.istore_n 3, 1) := by decide +kernel
theorem dX1_leastReshoots_45 : decode cX1_leastReshoots 45 = .ok (.iinc 4 1, 3) := by decide +kernel
theorem dX1_leastReshoots_48 : decode cX1_leastReshoots 48 = .ok (.goto (-37), 3) := by decide +kernel
theorem dX1_leastReshoots_51 : decode cX1_leastReshoots 51 = .ok (.iload_n 3, 1) := by decide +kernel
theorem dX1_leastReshoots_52 : decode cX1_leastReshoots 52 = .ok (.ireturn, 1) := by decide +kernel
theorem dX1_isPeaceful_0 : decode cX1_isPeaceful 0 = .ok (.iconst 0, 1) := by decide +kernel
theorem dX1_isPeaceful_1 : decode cX1_isPeaceful 1 = .ok (.istore_n 2, 1) := by decide +kernel
theorem dX1_isPeaceful_2 : decode cX1_isPeaceful 2 = .ok (.iload_n 2, 1) := by decide +kernel
theorem dX1_isPeaceful_3 : decode cX1_isPeaceful 3 = .ok (.bipush 6, 2) := by decide +kernel
theorem dX1_isPeaceful_5 : decode cX1_isPeaceful 5 = .ok (.if_icmp .ge 30, 3) := by decide +kernel
theorem dX1_isPeaceful_8 : decode cX1_isPeaceful 8 = .ok (.iload_n 1, 1) := by decide +kernel
theorem dX1_isPeaceful_9 : decode cX1_isPeaceful 9 = .ok (.iload_n 2, 1) := by decide +kernel
theorem dX1_isPeaceful_10 : decode cX1_isPeaceful 10 = .ok (.invokestatic 35, 3) := by decide +kernel
theorem dX1_isPeaceful_13 : decode cX1_isPeaceful 13 = .ok (.ifCond .eq 16, 3) := by decide +kernel
theorem dX1_isPeaceful_16 : decode cX1_isPeaceful 16 = .ok (.aload_n 0, 1) := by decide +kernel
theorem dX1_isPeaceful_17 : decode cX1_isPeaceful 17 = .ok (.getfield 9, 3) := by decide +kernel
theorem dX1_isPeaceful_20 : decode cX1_isPeaceful 20 = .ok (.iload_n 2, 1) := by decide +kernel
theorem dX1_isPeaceful_21 : decode cX1_isPeaceful 21 = .ok (.iaload, 1) := by decide +kernel
theorem dX1_isPeaceful_22 : decode cX1_isPeaceful 22 = .ok (.iload_n 1, 1) := by decide +kernel
theorem dX1_isPeaceful_23 : decode cX1_isPeaceful 23 = .ok (.iand, 1) := by decide +kernel
theorem dX1_isPeaceful_24 : decode cX1_isPeaceful 24 = .ok (.ifCond .eq 5, 3) := by decide +kernel
theorem dX1_isPeaceful_27 : decode cX1_isPeaceful 27 = .ok (.iconst 0, 1) := by decide +kernel
theorem dX1_isPeaceful_28 : decode cX1_isPeaceful 28 = .ok (.ireturn, 1) := by decide +kernel
theorem dX1_isPeaceful_29 : decode cX1_isPeaceful 29 = .ok (.iinc 2 1, 3) := by decide +kernel
theorem dX1_isPeaceful_32 : decode cX1_isPeaceful 32 = .ok (.goto (-30), 3) := by decide +kernel
theorem dX1_isPeaceful_35 : decode cX1_isPeaceful 35 = .ok (.iconst 1, 1) := by decide +kernel
theorem dX1_isPeaceful_36 : decode cX1_isPeaceful 36 = .ok (.ireturn, 1) := by decide +kernel
theorem dX2_init_0 : decode cX2_init 0 = .ok (.aload_n 0, 1) := by decide +kernel
theorem dX2_init_1 : decode cX2_init 1 = .ok (.invokespecial 3, 3) := by decide +kernel
theorem dX2_init_4 : decode cX2_init 4 = .ok (.aload_n 0, 1) := by decide +kernel
theorem dX2_init_5 : decode cX2_init 5 = .ok (.bipush 6, 2) := by decide +kernel
theorem dX2_init_7 : decode cX2_init 7 = .ok (.newarray .int, 2) := by decide +kernel
theorem dX2_init_9 : decode cX2_init 9 = .ok (.putfield 9, 3) := by decide +kernel
theorem dX2_init_12 : decode cX2_init 12 = .ok (.aload_n 0, 1) := by decide +kernel
theorem dX2_init_13 : decode cX2_init 13 = .ok (.bipush 6, 2) := by decide +kernel
theorem dX2_init_15 : decode cX2_init 15 = .ok (.newarray .int, 2) := by decide +kernel
theorem dX2_init_17 : decode cX2_init 17 = .ok (.putfield 15, 3) := by decide +kernel
theorem dX2_init_20 : decode cX2_init 20 = .ok (.aload_n 0, 1) := by decide +kernel
theorem dX2_init_21 : decode cX2_init 21 = .ok (.bipush 6, 2) := by decide +kernel
theorem dX2_init_23 : decode cX2_init 23 = .ok (.newarray .int, 2) := by decide +kernel
theorem dX2_init_25 : decode cX2_init 25 = .ok (.putfield 18, 3) := by decide +kernel
theorem dX2_init_28 : decode cX2_init 28 = .ok (.return_, 1) := by decide +kernel
theorem dX2_sizeOf_0 : decode cX2_sizeOf 0 = .ok (.iconst 0, 1) := by decide +kernel
theorem dX2_sizeOf_1 : decode cX2_sizeOf 1 = .ok (.aload_n 0, 1) := by decide +kernel
theorem dX2_sizeOf_2 : decode cX2_sizeOf 2 = .ok (.getfield 15, 3) := by decide +kernel
theorem dX2_sizeOf_5 : decode cX2_sizeOf 5 = .ok (.iload_n 1, 1) := by decide +kernel
theorem dX2_sizeOf_6 : decode cX2_sizeOf 6 = .ok (.iaload, 1) := by decide +kernel
theorem dX2_sizeOf_7 : decode cX2_sizeOf 7 = .ok (.aload_n 0, 1) := by decide +kernel
theorem dX2_sizeOf_8 : decode cX2_sizeOf 8 = .ok (.getfield 9, 3) := by decide +kernel
theorem dX2_sizeOf_11 : decode cX2_sizeOf 11 = .ok (.iload_n 1, 1) := by decide +kernel
theorem dX2_sizeOf_12 : decode cX2_sizeOf 12 = .ok (.iaload, 1) := by decide +kernel
theorem dX2_sizeOf_13 : decode cX2_sizeOf 13 = .ok (.isub, 1) := by decide +kernel
theorem dX2_sizeOf_14 : decode cX2_sizeOf 14 = .ok (.iconst 1, 1) := by decide +kernel
theorem dX2_sizeOf_15 : decode cX2_sizeOf 15 = .ok (.iadd, 1) := by decide +kernel
theorem dX2_sizeOf_16 : decode cX2_sizeOf 16 = .ok (.invokestatic 21, 3) := by decide +kernel
theorem dX2_sizeOf_19 : decode cX2_sizeOf 19 = .ok (.ireturn, 1) := by decide +kernel
theorem dX2_find_0 : decode cX2_find 0 = .ok (.aload_n 0, 1) := by decide +kernel
theorem dX2_find_1 : decode cX2_find 1 = .ok (.getfield 9, 3) := by decide +kernel
theorem dX2_find_4 : decode cX2_find 4 = .ok (.iload_n 2, 1) := by decide +kernel
theorem dX2_find_5 : decode cX2_find 5 = .ok (.iconst 0, 1) := by decide +kernel
theorem dX2_find_6 : decode cX2_find 6 = .ok (.iastore, 1) := by decide +kernel
theorem dX2_find_7 : decode cX2_find 7 = .ok (.aload_n 0, 1) := by decide +kernel
theorem dX2_find_8 : decode cX2_find 8 = .ok (.getfield 15, 3) := by decide +kernel
theorem dX2_find_11 : decode cX2_find 11 = .ok (.iload_n 2, 1) := by decide +kernel
theorem dX2_find_12 : decode cX2_find 12 = .ok (.bipush 99, 2) := by decide +kernel
theorem dX2_find_14 : decode cX2_find 14 = .ok (.iastore, 1) := by decide +kernel
theorem dX2_find_15 : decode cX2_find 15 = .ok (.iconst 0, 1) := by decide +kernel
theorem dX2_find_16 : decode cX2_find 16 = .ok (.istore 4, 2) := by decide +kernel
theorem dX2_find_18 : decode cX2_find 18 = .ok (.iload 4, 2) := by decide +kernel
theorem dX2_find_20 : decode cX2_find 20 = .ok (.aload_n 1, 1) := by decide +kernel
theorem dX2_find_21 : decode cX2_find 21 = .ok (.getfield 27, 3) := by decide +kernel
theorem dX2_find_24 : decode cX2_find 24 = .ok (.if_icmp .ge 57, 3) := by decide +kernel
theorem dX2_find_27 : decode cX2_find 27 = .ok (.aload_n 1, 1) := by decide +kernel
theorem dX2_find_28 : decode cX2_find 28 = .ok (.getfield 33, 3) := by decide +kernel
theorem dX2_find_31 : decode cX2_find 31 = .ok (.iload 4, 2) := by decide +kernel
theorem dX2_find_33 : decode cX2_find 33 = .ok (.iaload, 1) := by decide +kernel
theorem dX2_find_34 : decode cX2_find 34 = .ok (.istore 5, 2) := by decide +kernel
theorem dX2_find_36 : decode cX2_find 36 = .ok (.iload 4, 2) := by decide +kernel
theorem dX2_find_38 : decode cX2_find 38 = .ok (.iload_n 2, 1) := by decide +kernel
theorem dX2_find_39 : decode cX2_find 39 = .ok (.if_icmp .eq 36, 3) := by decide +kernel
theorem dX2_find_42 : decode cX2_find 42 = .ok (.iload 5, 2) := by decide +kernel
theorem dX2_find_44 : decode cX2_find 44 = .ok (.iconst (-1), 1) := by decide +kernel
theorem dX2_find_45 : decode cX2_find 45 = .ok (.if_icmp .eq 30, 3) := by decide +kernel
theorem dX2_find_48 : decode cX2_find 48 = .ok (.aload_n 1, 1) := by decide +kernel
theorem dX2_find_49 : decode cX2_find 49 = .ok (.iload 5, 2) := by decide +kernel
theorem dX2_find_51 : decode cX2_find 51 = .ok (.iload_n 3, 1) := by decide +kernel
theorem dX2_find_52 : decode cX2_find 52 = .ok (.invokevirtual 36, 3) := by decide +kernel
theorem dX2_find_55 : decode cX2_find 55 = .ok (.iconst (-1), 1) := by decide +kernel
theorem dX2_find_56 : decode cX2_find 56 = .ok (.if_icmp .eq 19, 3) := by decide +kernel
theorem dX2_find_59 : decode cX2_find 59 = .ok (.aload_n 0, 1) := by decide +kernel
theorem dX2_find_60 : decode cX2_find 60 = .ok (.aload_n 1, 1) := by decide +kernel
theorem dX2_find_61 : decode cX2_find 61 = .ok (.iload_n 2, 1) := by decide +kernel
theorem dX2_find_62 : decode cX2_find 62 = .ok (.iload_n 3, 1) := by decide +kernel
theorem dX2_find_63 : decode cX2_find 63 = .ok (.iload 4, 2) := by decide +kernel
theorem dX2_find_65 : decode cX2_find 65 = .ok (.aload_n 1, 1) := by decide +kernel
theorem dX2_find_66 : decode cX2_find 66 = .ok (.iload 5, 2) := by decide +kernel
theorem dX2_find_68 : decode cX2_find 68 = .ok (.iload_n 3, 1) := by decide +kernel
theorem dX2_find_69 : decode cX2_find 69 = .ok (.invokevirtual 36, 3) := by decide +kernel
theorem dX2_find_72 : decode cX2_find 72 = .ok (.invokevirtual 39, 3) := by decide +kernel
theorem dX2_find_75 : decode cX2_find 75 = .ok (.iinc 4 1, 3) := by decide +kernel
theorem dX2_find_78 : decode cX2_find 78 = .ok (.goto (-60), 3) := by decide +kernel
theorem dX2_find_81 : decode cX2_find 81 = .ok (.return_, 1) := by decide +kernel
theorem dX2_narrowBy_0 : decode cX2_narrowBy 0 = .ok (.aload_n 1, 1) := by decide +kernel
theorem dX2_narrowBy_1 : decode cX2_narrowBy 1 = .ok (.getfield 43, 3) := by decide +kernel
theorem dX2_narrowBy_4 : decode cX2_narrowBy 4 = .ok (.iload_n 3, 1) := by decide +kernel
theorem dX2_narrowBy_5 : decode cX2_narrowBy 5 = .ok (.iaload, 1) := by decide +kernel
theorem dX2_narrowBy_6 : decode cX2_narrowBy 6 = .ok (.ifCond .ne 29, 3) := by decide +kernel
theorem dX2_narrowBy_9 : decode cX2_narrowBy 9 = .ok (.aload_n 1, 1) := by decide +kernel
theorem dX2_narrowBy_10 : decode cX2_narrowBy 10 = .ok (.getfield 46, 3) := by decide +kernel
theorem dX2_narrowBy_13 : decode cX2_narrowBy 13 = .ok (.iload_n 2, 1) := by decide +kernel
theorem dX2_narrowBy_14 : decode cX2_narrowBy 14 = .ok (.iaload, 1) := by decide +kernel
theorem dX2_narrowBy_15 : decode cX2_narrowBy 15 = .ok (.aload_n 1, 1) := by decide +kernel
theorem dX2_narrowBy_16 : decode cX2_narrowBy 16 = .ok (.getfield 46, 3) := by decide +kernel
theorem dX2_narrowBy_19 : decode cX2_narrowBy 19 = .ok (.iload 4, 2) := by decide +kernel
theorem dX2_narrowBy_21 : decode cX2_narrowBy 21 = .ok (.iaload, 1) := by decide +kernel
theorem dX2_narrowBy_22 : decode cX2_narrowBy 22 = .ok (.if_icmp .ne 12, 3) := by decide +kernel
theorem dX2_narrowBy_25 : decode cX2_narrowBy 25 = .ok (.aload_n 0, 1) := by decide +kernel
theorem dX2_narrowBy_26 : decode cX2_narrowBy 26 = .ok (.iload_n 2, 1) := by decide +kernel
theorem dX2_narrowBy_27 : decode cX2_narrowBy 27 = .ok (.iload 5, 2) := by decide +kernel
theorem dX2_narrowBy_29 : decode cX2_narrowBy 29 = .ok (.iload 5, 2) := by decide +kernel
theorem dX2_narrowBy_31 : decode cX2_narrowBy 31 = .ok (.invokevirtual 49, 3) := by decide +kernel
theorem dX2_narrowBy_34 : decode cX2_narrowBy 34 = .ok (.return_, 1) := by decide +kernel
theorem dX2_narrowBy_35 : decode cX2_narrowBy 35 = .ok (.aload_n 1, 1) := by decide +kernel
theorem dX2_narrowBy_36 : decode cX2_narrowBy 36 = .ok (.iload 4, 2) := by decide +kernel
theorem dX2_narrowBy_38 : decode cX2_narrowBy 38 = .ok (.iload_n 2, 1) := by decide +kernel
theorem dX2_narrowBy_39 : decode cX2_narrowBy 39 = .ok (.invokevirtual 53, 3) := by decide +kernel
theorem dX2_narrowBy_42 : decode cX2_narrowBy 42 = .ok (.lookupswitch 74 #[(1, 26), (2, 50)], 26) := by decide +kernel
theorem dX2_narrowBy_68 : decode cX2_narrowBy 68 = .ok (.aload_n 0, 1) := by decide +kernel
theorem dX2_narrowBy_69 : decode cX2_narrowBy 69 = .ok (.iload_n 2, 1) := by decide +kernel
theorem dX2_narrowBy_70 : decode cX2_narrowBy 70 = .ok (.aload_n 1, 1) := by decide +kernel
theorem dX2_narrowBy_71 : decode cX2_narrowBy 71 = .ok (.getfield 43, 3) := by decide +kernel
theorem dX2_narrowBy_74 : decode cX2_narrowBy 74 = .ok (.iload_n 3, 1) := by decide +kernel
theorem dX2_narrowBy_75 : decode cX2_narrowBy 75 = .ok (.iaload, 1) := by decide +kernel
theorem dX2_narrowBy_76 : decode cX2_narrowBy 76 = .ok (.iload 5, 2) := by decide +kernel
theorem dX2_narrowBy_78 : decode cX2_narrowBy 78 = .ok (.aload_n 1, 1) := by decide +kernel
theorem dX2_narrowBy_79 : decode cX2_narrowBy 79 = .ok (.iload_n 3, 1) := by decide +kernel
theorem dX2_narrowBy_80 : decode cX2_narrowBy 80 = .ok (.iload 4, 2) := by decide +kernel
theorem dX2_narrowBy_82 : decode cX2_narrowBy 82 = .ok (.iload_n 2, 1) := by decide +kernel
theorem dX2_narrowBy_83 : decode cX2_narrowBy 83 = .ok (.invokevirtual 56, 3) := by decide +kernel
theorem dX2_narrowBy_86 : decode cX2_narrowBy 86 = .ok (.invokevirtual 60, 3) := by decide +kernel
theorem dX2_narrowBy_89 : decode cX2_narrowBy 89 = .ok (.goto 27, 3) := by decide +kernel
theorem dX2_narrowBy_92 : decode cX2_narrowBy 92 = .ok (.aload_n 0, 1) := by decide +kernel
theorem dX2_narrowBy_93 : decode cX2_narrowBy 93 = .ok (.iload_n 2, 1) := by decide +kernel
theorem dX2_narrowBy_94 : decode cX2_narrowBy 94 = .ok (.aload_n 1, 1) := by decide +kernel
theorem dX2_narrowBy_95 : decode cX2_narrowBy 95 = .ok (.getfield 43, 3) := by decide +kernel
theorem dX2_narrowBy_98 : decode cX2_narrowBy 98 = .ok (.iload_n 3, 1) := by decide +kernel
theorem dX2_narrowBy_99 : decode cX2_narrowBy 99 = .ok (.iaload, 1) := by decide +kernel
theorem dX2_narrowBy_100 : decode cX2_narrowBy 100 = .ok (.iload 5, 2) := by decide +kernel
theorem dX2_narrowBy_102 : decode cX2_narrowBy 102 = .ok (.aload_n 1, 1) := by decide +kernel
theorem dX2_narrowBy_103 : decode cX2_narrowBy 103 = .ok (.iload_n 3, 1) := by decide +kernel
theorem dX2_narrowBy_104 : decode cX2_narrowBy 104 = .ok (.iload_n 2, 1) := by decide +kernel
theorem dX2_narrowBy_105 : decode cX2_narrowBy 105 = .ok (.iload 4, 2) := by decide +kernel
theorem dX2_narrowBy_107 : decode cX2_narrowBy 107 = .ok (.invokevirtual 56, 3) := by decide +kernel
theorem dX2_narrowBy_110 : decode cX2_narrowBy 110 = .ok (.invokevirtual 64, 3) := by decide +kernel
theorem dX2_narrowBy_113 : decode cX2_narrowBy 113 = .ok (.goto 3, 3) := by decide +kernel
theorem dX2_narrowBy_116 : decode cX2_narrowBy 116 = .ok (.return_, 1) := by decide +kernel
theorem dX2_narrowAfter_0 : decode cX2_narrowAfter 0 = .ok (.iload_n 2, 1) := by decide +kernel
theorem dX2_narrowAfter_1 : decode cX2_narrowAfter 1 = .ok (.tableswitch 72 1 3 #[27, 37, 48], 27) := by decide +kernel
theorem dX2_narrowAfter_28 : decode cX2_narrowAfter 28 = .ok (.aload_n 0, 1) := by decide +kernel
theorem dX2_narrowAfter_29 : decode cX2_narrowAfter 29 = .ok (.iload_n 1, 1) := by decide +kernel
theorem dX2_narrowAfter_30 : decode cX2_narrowAfter 30 = .ok (.iconst 0, 1) := by decide +kernel
theorem dX2_narrowAfter_31 : decode cX2_narrowAfter 31 = .ok (.iload_n 3, 1) := by decide +kernel
theorem dX2_narrowAfter_32 : decode cX2_narrowAfter 32 = .ok (.invokevirtual 49, 3) := by decide +kernel
theorem dX2_narrowAfter_35 : decode cX2_narrowAfter 35 = .ok (.goto 38, 3) := by decide +kernel
theorem dX2_narrowAfter_38 : decode cX2_narrowAfter 38 = .ok (.aload_n 0, 1) := by decide +kernel
theorem dX2_narrowAfter_39 : decode cX2_narrowAfter 39 = .ok (.iload_n 1, 1) := by decide +kernel
theorem dX2_narrowAfter_40 : decode cX2_narrowAfter 40 = .ok (.iload_n 3, 1) := by decide +kernel
theorem dX2_narrowAfter_41 : decode cX2_narrowAfter 41 = .ok (.bipush 99, 2) := by decide +kernel
theorem dX2_narrowAfter_43 : decode cX2_narrowAfter 43 = .ok (.invokevirtual 49, 3) := by decide +kernel
theorem dX2_narrowAfter_46 : decode cX2_narrowAfter 46 = .ok (.goto 27, 3) := by decide +kernel
theorem dX2_narrowAfter_49 : decode cX2_narrowAfter 49 = .ok (.aload_n 0, 1) := by decide +kernel
theorem dX2_narrowAfter_50 : decode cX2_narrowAfter 50 = .ok (.iload_n 1, 1) := by decide +kernel
theorem dX2_narrowAfter_51 : decode cX2_narrowAfter 51 = .ok (.iconst 0, 1) := by decide +kernel
theorem dX2_narrowAfter_52 : decode cX2_narrowAfter 52 = .ok (.iload_n 3, 1) := by decide +kernel
theorem dX2_narrowAfter_53 : decode cX2_narrowAfter 53 = .ok (.iload 4, 2) := by decide +kernel
theorem dX2_narrowAfter_55 : decode cX2_narrowAfter 55 = .ok (.isub, 1) := by decide +kernel
theorem dX2_narrowAfter_56 : decode cX2_narrowAfter 56 = .ok (.invokestatic 21, 3) := by decide +kernel
theorem dX2_narrowAfter_59 : decode cX2_narrowAfter 59 = .ok (.iconst 0, 1) := by decide +kernel
theorem dX2_narrowAfter_60 : decode cX2_narrowAfter 60 = .ok (.iload_n 3, 1) := by decide +kernel
theorem dX2_narrowAfter_61 : decode cX2_narrowAfter 61 = .ok (.iload 4, 2) := by decide +kernel
theorem dX2_narrowAfter_63 : decode cX2_narrowAfter 63 = .ok (.isub, 1) := by decide +kernel
theorem dX2_narrowAfter_64 : decode cX2_narrowAfter 64 = .ok (.invokestatic 21, 3) := by decide +kernel
theorem dX2_narrowAfter_67 : decode cX2_narrowAfter 67 = .ok (.invokevirtual 49, 3) := by decide +kernel
theorem dX2_narrowAfter_70 : decode cX2_narrowAfter 70 = .ok (.goto 3, 3) := by decide +kernel
theorem dX2_narrowAfter_73 : decode cX2_narrowAfter 73 = .ok (.return_, 1) := by decide +kernel
theorem dX2_narrowBefore_0 : decode cX2_narrowBefore 0 = .ok (.iload_n 2, 1) := by decide +kernel
theorem dX2_narrowBefore_1 : decode cX2_narrowBefore 1 = .ok (.tableswitch 72 1 3 #[27, 38, 48], 27) := by decide +kernel
theorem dX2_narrowBefore_28 : decode cX2_narrowBefore 28 = .ok (.aload_n 0, 1) := by decide +kernel
theorem dX2_narrowBefore_29 : decode cX2_narrowBefore 29 = .ok (.iload_n 1, 1) := by decide +kernel
theorem dX2_narrowBefore_30 : decode cX2_narrowBefore 30 = .ok (.iload_n 3, 1) := by decide +kernel
theorem dX2_narrowBefore_31 : decode cX2_narrowBefore 31 = .ok (.bipush 99, 2) := by decide +kernel
theorem dX2_narrowBefore_33 : decode cX2_narrowBefore 33 = .ok (.invokevirtual 49, 3) := by decide +kernel
theorem dX2_narrowBefore_36 : decode cX2_narrowBefore 36 = .ok (.goto 37, 3) := by decide +kernel
theorem dX2_narrowBefore_39 : decode cX2_narrowBefore 39 = .ok (.aload_n 0, 1) := by decide +kernel
theorem dX2_narrowBefore_40 : decode cX2_narrowBefore 40 = .ok (.iload_n 1, 1) := by decide +kernel
theorem dX2_narrowBefore_41 : decode cX2_narrowBefore 41 = .ok (.iconst 0, 1) := by decide +kernel
theorem dX2_narrowBefore_42 : decode cX2_narrowBefore 42 = .ok (.iload_n 3, 1) := by decide +kernel
theorem dX2_narrowBefore_43 : decode cX2_narrowBefore 43 = .ok (.invokevirtual 49, 3) := by decide +kernel
theorem dX2_narrowBefore_46 : decode cX2_narrowBefore 46 = .ok (.goto 27, 3) := by decide +kernel
theorem dX2_narrowBefore_49 : decode cX2_narrowBefore 49 = .ok (.aload_n 0, 1) := by decide +kernel
theorem dX2_narrowBefore_50 : decode cX2_narrowBefore 50 = .ok (.iload_n 1, 1) := by decide +kernel
theorem dX2_narrowBefore_51 : decode cX2_narrowBefore 51 = .ok (.iload_n 3, 1) := by decide +kernel
theorem dX2_narrowBefore_52 : decode cX2_narrowBefore 52 = .ok (.ifCond .ne 7, 3) := by decide +kernel
theorem dX2_narrowBefore_55 : decode cX2_narrowBefore 55 = .ok (.iconst 0, 1) := by decide +kernel
theorem dX2_narrowBefore_56 : decode cX2_narrowBefore 56 = .ok (.goto 7, 3) := by decide +kernel
theorem dX2_narrowBefore_59 : decode cX2_narrowBefore 59 = .ok (.iload_n 3, 1) := by decide +kernel
theorem dX2_narrowBefore_60 : decode cX2_narrowBefore 60 = .ok (.iload 4, 2) := by decide +kernel
theorem dX2_narrowBefore_62 : decode cX2_narrowBefore 62 = .ok (.iadd, 1) := by decide +kernel
theorem dX2_narrowBefore_63 : decode cX2_narrowBefore 63 = .ok (.iload_n 3, 1) := by decide +kernel
theorem dX2_narrowBefore_64 : decode cX2_narrowBefore 64 = .ok (.iload 4, 2) := by decide +kernel
theorem dX2_narrowBefore_66 : decode cX2_narrowBefore 66 = .ok (.iadd, 1) := by decide +kernel
theorem dX2_narrowBefore_67 : decode cX2_narrowBefore 67 = .ok (.invokevirtual 49, 3) := by decide +kernel
theorem dX2_narrowBefore_70 : decode cX2_narrowBefore 70 = .ok (.goto 3, 3) := by decide +kernel
theorem dX2_narrowBefore_73 : decode cX2_narrowBefore 73 = .ok (.return_, 1) := by decide +kernel
theorem dX2_keepWithin_0 : decode cX2_keepWithin 0 = .ok (.aload_n 0, 1) := by decide +kernel
theorem dX2_keepWithin_1 : decode cX2_keepWithin 1 = .ok (.getfield 9, 3) := by decide +kernel
theorem dX2_keepWithin_4 : decode cX2_keepWithin 4 = .ok (.iload_n 1, 1) := by decide +kernel
theorem dX2_keepWithin_5 : decode cX2_keepWithin 5 = .ok (.aload_n 0, 1) := by decide +kernel
theorem dX2_keepWithin_6 : decode cX2_keepWithin 6 = .ok (.getfield 9, 3) := by decide +kernel
theorem dX2_keepWithin_9 : decode cX2_keepWithin 9 = .ok (.iload_n 1, 1) := by decide +kernel
theorem dX2_keepWithin_10 : decode cX2_keepWithin 10 = .ok (.iaload, 1) := by decide +kernel
theorem dX2_keepWithin_11 : decode cX2_keepWithin 11 = .ok (.iload_n 2, 1) := by decide +kernel
theorem dX2_keepWithin_12 : decode cX2_keepWithin 12 = .ok (.invokestatic 21, 3) := by decide +kernel
theorem dX2_keepWithin_15 : decode cX2_keepWithin 15 = .ok (.iastore, 1) := by decide +kernel
theorem dX2_keepWithin_16 : decode cX2_keepWithin 16 = .ok (.aload_n 0, 1) := by decide +kernel
theorem dX2_keepWithin_17 : decode cX2_keepWithin 17 = .ok (.getfield 15, 3) := by decide +kernel
theorem dX2_keepWithin_20 : decode cX2_keepWithin 20 = .ok (.iload_n 1, 1) := by decide +kernel
theorem dX2_keepWithin_21 : decode cX2_keepWithin 21 = .ok (.aload_n 0, 1) := by decide +kernel
theorem dX2_keepWithin_22 : decode cX2_keepWithin 22 = .ok (.getfield 15, 3) := by decide +kernel
theorem dX2_keepWithin_25 : decode cX2_keepWithin 25 = .ok (.iload_n 1, 1) := by decide +kernel
theorem dX2_keepWithin_26 : decode cX2_keepWithin 26 = .ok (.iaload, 1) := by decide +kernel
theorem dX2_keepWithin_27 : decode cX2_keepWithin 27 = .ok (.iload_n 3, 1) := by decide +kernel
theorem dX2_keepWithin_28 : decode cX2_keepWithin 28 = .ok (.invokestatic 67, 3) := by decide +kernel
theorem dX2_keepWithin_31 : decode cX2_keepWithin 31 = .ok (.iastore, 1) := by decide +kernel
theorem dX2_keepWithin_32 : decode cX2_keepWithin 32 = .ok (.return_, 1) := by decide +kernel
theorem dX2_findDoubles_0 : decode cX2_findDoubles 0 = .ok (.iconst 0, 1) := by decide +kernel
theorem dX2_findDoubles_1 : decode cX2_findDoubles 1 = .ok (.istore 4, 2) := by decide +kernel
theorem dX2_findDoubles_3 : decode cX2_findDoubles 3 = .ok (.iload 4, 2) := by decide +kernel
theorem dX2_findDoubles_5 : decode cX2_findDoubles 5 = .ok (.aload_n 1, 1) := by decide +kernel
theorem dX2_findDoubles_6 : decode cX2_findDoubles 6 = .ok (.getfield 27, 3) := by decide +kernel
theorem dX2_findDoubles_9 : decode cX2_findDoubles 9 = .ok (.if_icmp .ge 38, 3) := by decide +kernel
theorem dX2_findDoubles_12 : decode cX2_findDoubles 12 = .ok (.iload_n 3, 1) := by decide +kernel
theorem dX2_findDoubles_13 : decode cX2_findDoubles 13 = .ok (.iload 4, 2) := by decide +kernel
theorem dX2_findDoubles_15 : decode cX2_findDoubles 15 = .ok (.invokestatic 70, 3) := by decide +kernel
theorem dX2_findDoubles_18 : decode cX2_findDoubles 18 = .ok (.ifCond .eq 23, 3) := by decide +kernel
theorem dX2_findDoubles_21 : decode cX2_findDoubles 21 = .ok (.aload_n 0, 1) := by decide +kernel
theorem dX2_findDoubles_22 : decode cX2_findDoubles 22 = .ok (.aload_n 1, 1) := by decide +kernel
theorem dX2_findDoubles_23 : decode cX2_findDoubles 23 = .ok (.iload 4, 2) := by decide +kernel
theorem dX2_findDoubles_25 : decode cX2_findDoubles 25 = .ok (.iload_n 2, 1) := by decide +kernel
theorem dX2_findDoubles_26 : decode cX2_findDoubles 26 = .ok (.invokevirtual 74, 3) := by decide +kernel
theorem dX2_findDoubles_29 : decode cX2_findDoubles 29 = .ok (.aload_n 0, 1) := by decide +kernel
theorem dX2_findDoubles_30 : decode cX2_findDoubles 30 = .ok (.iload 4, 2) := by decide +kernel
theorem dX2_findDoubles_32 : decode cX2_findDoubles 32 = .ok (.invokevirtual 78, 3) := by decide +kernel
theorem dX2_findDoubles_35 : decode cX2_findDoubles 35 = .ok (.ifCond .ne 6, 3) := by decide +kernel
theorem dX2_findDoubles_38 : decode cX2_findDoubles 38 = .ok (.bipush (-4), 2) := by decide +kernel
theorem dX2_findDoubles_40 : decode cX2_findDoubles 40 = .ok (.ireturn, 1) := by decide +kernel
theorem dX2_findDoubles_41 : decode cX2_findDoubles 41 = .ok (.iinc 4 1, 3) := by decide +kernel
theorem dX2_findDoubles_44 : decode cX2_findDoubles 44 = .ok (.goto (-41), 3) := by decide +kernel
theorem dX2_findDoubles_47 : decode cX2_findDoubles 47 = .ok (.aload_n 0, 1) := by decide +kernel
theorem dX2_findDoubles_48 : decode cX2_findDoubles 48 = .ok (.iload_n 3, 1) := by decide +kernel
theorem dX2_findDoubles_49 : decode cX2_findDoubles 49 = .ok (.invokevirtual 82, 3) := by decide +kernel
theorem dX2_findDoubles_52 : decode cX2_findDoubles 52 = .ok (.ireturn, 1) := by decide +kernel
theorem dX2_fillDoublesRow_0 : decode cX2_fillDoublesRow 0 = .ok (.iload_n 1, 1) := by decide +kernel
theorem dX2_fillDoublesRow_1 : decode cX2_fillDoublesRow 1 = .ok (.istore_n 2, 1) := by decide +kernel
theorem dX2_fillDoublesRow_2 : decode cX2_fillDoublesRow 2 = .ok (.iconst 0, 1) := by decide +kernel
theorem dX2_fillDoublesRow_3 : decode cX2_fillDoublesRow 3 = .ok (.istore_n 3, 1) := by decide +kernel
theorem dX2_fillDoublesRow_4 : decode cX2_fillDoublesRow 4 = .ok (.iload_n 2, 1) := by decide +kernel
theorem dX2_fillDoublesRow_5 : decode cX2_fillDoublesRow 5 = .ok (.ifCond .eq 38, 3) := by decide +kernel
theorem dX2_fillDoublesRow_8 : decode cX2_fillDoublesRow 8 = .ok (.iload_n 3, 1) := by decide +kernel
theorem dX2_fillDoublesRow_9 : decode cX2_fillDoublesRow 9 = .ok (.bipush 6, 2) := by decide +kernel
theorem dX2_fillDoublesRow_11 : decode cX2_fillDoublesRow 11 = .ok (.if_icmp .ge 32, 3) := by decide +kernel
theorem dX2_fillDoublesRow_14 : decode cX2_fillDoublesRow 14 = .ok (.aload_n 0, 1) := by decide +kernel
theorem dX2_fillDoublesRow_15 : decode cX2_fillDoublesRow 15 = .ok (.iload_n 2, 1) := by decide +kernel
theorem dX2_fillDoublesRow_16 : decode cX2_fillDoublesRow 16 = .ok (.invokevirtual 85, 3) := by decide +kernel
theorem dX2_fillDoublesRow_19 : decode cX2_fillDoublesRow 19 = .ok (.istore 4, 2) := by decide +kernel
theorem dX2_fillDoublesRow_21 : decode cX2_fillDoublesRow 21 = .ok (.aload_n 0, 1) := by decide +kernel
theorem dX2_fillDoublesRow_22 : decode cX2_fillDoublesRow 22 = .ok (.getfield 18, 3) := by decide +kernel
theorem dX2_fillDoublesRow_25 : decode cX2_fillDoublesRow 25 = .ok (.iload_n 3, 1) := by decide +kernel
theorem dX2_fillDoublesRow_26 : decode cX2_fillDoublesRow 26 = .ok (.iload 4, 2) := by decide +kernel
theorem dX2_fillDoublesRow_28 : decode cX2_fillDoublesRow 28 = .ok (.iastore, 1) := by decide +kernel
theorem dX2_fillDoublesRow_29 : decode cX2_fillDoublesRow 29 = .ok (.iinc 3 1, 3) := by decide +kernel
theorem dX2_fillDoublesRow_32 : decode cX2_fillDoublesRow 32 = .ok (.aload_n 0, 1) := by decide +kernel
theorem dX2_fillDoublesRow_33 : decode cX2_fillDoublesRow 33 = .ok (.iload_n 2, 1) := by decide +kernel
theorem dX2_fillDoublesRow_34 : decode cX2_fillDoublesRow 34 = .ok (.iload 4, 2) := by decide +kernel
theorem dX2_fillDoublesRow_36 : decode cX2_fillDoublesRow 36 = .ok (.invokevirtual 88, 3) := by decide +kernel
theorem dX2_fillDoublesRow_39 : decode cX2_fillDoublesRow 39 = .ok (.istore_n 2, 1) := by decide +kernel
theorem dX2_fillDoublesRow_40 : decode cX2_fillDoublesRow 40 = .ok (.goto (-36), 3) := by decide +kernel
theorem dX2_fillDoublesRow_43 : decode cX2_fillDoublesRow 43 = .ok (.iload_n 3, 1) := by decide +kernel
theorem dX2_fillDoublesRow_44 : decode cX2_fillDoublesRow 44 = .ok (.ireturn, 1) := by decide +kernel
theorem dX2_leastHighOf_0 : decode cX2_leastHighOf 0 = .ok (.bipush 99, 2) := by decide +kernel
theorem dX2_leastHighOf_2 : decode cX2_leastHighOf 2 = .ok (.istore_n 2, 1) := by decide +kernel
theorem dX2_leastHighOf_3 : decode cX2_leastHighOf 3 = .ok (.iconst 0, 1) := by decide +kernel
theorem dX2_leastHighOf_4 : decode cX2_leastHighOf 4 = .ok (.istore_n 3, 1) := by decide +kernel
theorem dX2_leastHighOf_5 : decode cX2_leastHighOf 5 = .ok (.iload_n 3, 1) := by decide +kernel
theorem dX2_leastHighOf_6 : decode cX2_leastHighOf 6 = .ok (.bipush 6, 2) := by decide +kernel
theorem dX2_leastHighOf_8 : decode cX2_leastHighOf 8 = .ok (.if_icmp .ge 28, 3) := by decide +kernel
theorem dX2_leastHighOf_11 : decode cX2_leastHighOf 11 = .ok (.iload_n 1, 1) := by decide +kernel
theorem dX2_leastHighOf_12 : decode cX2_leastHighOf 12 = .ok (.iload_n 3, 1) := by decide +kernel
theorem dX2_leastHighOf_13 : decode cX2_leastHighOf 13 = .ok (.invokestatic 70, 3) := by decide +kernel
theorem dX2_leastHighOf_16 : decode cX2_leastHighOf 16 = .ok (.ifCond .eq 14, 3) := by decide +kernel
theorem dX2_leastHighOf_19 : decode cX2_leastHighOf 19 = .ok (.iload_n 2, 1) := by decide +kernel
theorem dX2_leastHighOf_20 : decode cX2_leastHighOf 20 = .ok (.aload_n 0, 1) := by decide +kernel
theorem dX2_leastHighOf_21 : decode cX2_leastHighOf 21 = .ok (.getfield 15, 3) := by decide +kernel
theorem dX2_leastHighOf_24 : decode cX2_leastHighOf 24 = .ok (.iload_n 3, 1) := by decide +kernel
theorem dX2_leastHighOf_25 : decode cX2_leastHighOf 25 = .ok (.iaload, 1) := by decide +kernel
theorem dX2_leastHighOf_26 : decode cX2_leastHighOf 26 = .ok (.invokestatic 67, 3) := by decide +kernel
theorem dX2_leastHighOf_29 : decode cX2_leastHighOf 29 = .ok (.istore_n 2, 1) := by decide +kernel
theorem dX2_leastHighOf_30 : decode cX2_leastHighOf 30 = .ok (.iinc 3 1, 3) := by decide +kernel
theorem dX2_leastHighOf_33 : decode cX2_leastHighOf 33 = .ok (.goto (-28), 3) := by decide +kernel
theorem dX2_leastHighOf_36 : decode cX2_leastHighOf 36 = .ok (.iload_n 2, 1) := by decide +kernel
theorem dX2_leastHighOf_37 : decode cX2_leastHighOf 37 = .ok (.ireturn, 1) := by decide +kernel
theorem dX2_withoutServed_0 : decode cX2_withoutServed 0 = .ok (.iload_n 1, 1) := by decide +kernel
theorem dX2_withoutServed_1 : decode cX2_withoutServed 1 = .ok (.istore_n 3, 1) := by decide +kernel
theorem dX2_withoutServed_2 : decode cX2_withoutServed 2 = .ok (.iconst 0, 1) := by decide +kernel
theorem dX2_withoutServed_3 : decode cX2_withoutServed 3 = .ok (.istore 4, 2) := by decide +kernel
theorem dX2_withoutServed_5 : decode cX2_withoutServed 5 = .ok (.iload 4, 2) := by decide +kernel
theorem dX2_withoutServed_7 : decode cX2_withoutServed 7 = .ok (.bipush 6, 2) := by decide +kernel
theorem dX2_withoutServed_9 : decode cX2_withoutServed 9 = .ok (.if_icmp .ge 38, 3) := by decide +kernel
theorem dX2_withoutServed_12 : decode cX2_withoutServed 12 = .ok (.iload_n 1, 1) := by decide +kernel
theorem dX2_withoutServed_13 : decode cX2_withoutServed 13 = .ok (.iload 4, 2) := by decide +kernel
theorem dX2_withoutServed_15 : decode cX2_withoutServed 15 = .ok (.invokestatic 70, 3) := by decide +kernel
theorem dX2_withoutServed_18 : decode cX2_withoutServed 18 = .ok (.ifCond .eq 23, 3) := by decide +kernel
theorem dX2_withoutServed_21 : decode cX2_withoutServed 21 = .ok (.aload_n 0, 1) := by decide +kernel
theorem dX2_withoutServed_22 : decode cX2_withoutServed 22 = .ok (.getfield 9, 3) := by decide +kernel
theorem dX2_withoutServed_25 : decode cX2_withoutServed 25 = .ok (.iload 4, 2) := by decide +kernel
theorem dX2_withoutServed_27 : decode cX2_withoutServed 27 = .ok (.iaload, 1) := by decide +kernel
theorem dX2_withoutServed_28 : decode cX2_withoutServed 28 = .ok (.iload_n 2, 1) := by decide +kernel
theorem dX2_withoutServed_29 : decode cX2_withoutServed 29 = .ok (.if_icmp .gt 12, 3) := by decide +kernel
theorem dX2_withoutServed_32 : decode cX2_withoutServed 32 = .ok (.iload_n 3, 1) := by decide +kernel
theorem dX2_withoutServed_33 : decode cX2_withoutServed 33 = .ok (.iconst 1, 1) := by decide +kernel
theorem dX2_withoutServed_34 : decode cX2_withoutServed 34 = .ok (.iload 4, 2) := by decide +kernel
theorem dX2_withoutServed_36 : decode cX2_withoutServed 36 = .ok (.ishl, 1) := by decide +kernel
theorem dX2_withoutServed_37 : decode cX2_withoutServed 37 = .ok (.iconst (-1), 1) := by decide +kernel
theorem dX2_withoutServed_38 : decode cX2_withoutServed 38 = .ok (.ixor, 1) := by decide +kernel
theorem dX2_withoutServed_39 : decode cX2_withoutServed 39 = .ok (.iand, 1) := by decide +kernel
theorem dX2_withoutServed_40 : decode cX2_withoutServed 40 = .ok (.istore_n 3, 1) := by decide +kernel
theorem dX2_withoutServed_41 : decode cX2_withoutServed 41 = .ok (.iinc 4 1, 3) := by decide +kernel
theorem dX2_withoutServed_44 : decode cX2_withoutServed 44 = .ok (.goto (-39), 3) := by decide +kernel
theorem dX2_withoutServed_47 : decode cX2_withoutServed 47 = .ok (.iload_n 3, 1) := by decide +kernel
theorem dX2_withoutServed_48 : decode cX2_withoutServed 48 = .ok (.ireturn, 1) := by decide +kernel
theorem dX3_init_0 : decode cX3_init 0 = .ok (.aload_n 0, 1) := by decide +kernel
theorem dX3_init_1 : decode cX3_init 1 = .ok (.invokespecial 3, 3) := by decide +kernel
theorem dX3_init_4 : decode cX3_init 4 = .ok (.aload_n 0, 1) := by decide +kernel
theorem dX3_init_5 : decode cX3_init 5 = .ok (.iconst 0, 1) := by decide +kernel
theorem dX3_init_6 : decode cX3_init 6 = .ok (.putfield 9, 3) := by decide +kernel
theorem dX3_init_9 : decode cX3_init 9 = .ok (.aload_n 0, 1) := by decide +kernel
theorem dX3_init_10 : decode cX3_init 10 = .ok (.bipush 6, 2) := by decide +kernel
theorem dX3_init_12 : decode cX3_init 12 = .ok (.newarray .int, 2) := by decide +kernel
theorem dX3_init_14 : decode cX3_init 14 = .ok (.putfield 15, 3) := by decide +kernel
theorem dX3_init_17 : decode cX3_init 17 = .ok (.aload_n 0, 1) := by decide +kernel
theorem dX3_init_18 : decode cX3_init 18 = .ok (.bipush 6, 2) := by decide +kernel
theorem dX3_init_20 : decode cX3_init 20 = .ok (.newarray .int, 2) := by decide +kernel
theorem dX3_init_22 : decode cX3_init 22 = .ok (.putfield 19, 3) := by decide +kernel
theorem dX3_init_25 : decode cX3_init 25 = .ok (.aload_n 0, 1) := by decide +kernel
theorem dX3_init_26 : decode cX3_init 26 = .ok (.bipush 6, 2) := by decide +kernel
theorem dX3_init_28 : decode cX3_init 28 = .ok (.newarray .int, 2) := by decide +kernel
theorem dX3_init_30 : decode cX3_init 30 = .ok (.putfield 22, 3) := by decide +kernel
theorem dX3_init_33 : decode cX3_init 33 = .ok (.aload_n 0, 1) := by decide +kernel
theorem dX3_init_34 : decode cX3_init 34 = .ok (.iconst 0, 1) := by decide +kernel
theorem dX3_init_35 : decode cX3_init 35 = .ok (.putfield 25, 3) := by decide +kernel
theorem dX3_init_38 : decode cX3_init 38 = .ok (.aload_n 0, 1) := by decide +kernel
theorem dX3_init_39 : decode cX3_init 39 = .ok (.bipush 6, 2) := by decide +kernel
theorem dX3_init_41 : decode cX3_init 41 = .ok (.newarray .int, 2) := by decide +kernel
theorem dX3_init_43 : decode cX3_init 43 = .ok (.putfield 28, 3) := by decide +kernel
theorem dX3_init_46 : decode cX3_init 46 = .ok (.aload_n 0, 1) := by decide +kernel
theorem dX3_init_47 : decode cX3_init 47 = .ok (.bipush 6, 2) := by decide +kernel
theorem dX3_init_49 : decode cX3_init 49 = .ok (.newarray .int, 2) := by decide +kernel
theorem dX3_init_51 : decode cX3_init 51 = .ok (.putfield 31, 3) := by decide +kernel
theorem dX3_init_54 : decode cX3_init 54 = .ok (.aload_n 0, 1) := by decide +kernel
theorem dX3_init_55 : decode cX3_init 55 = .ok (.bipush 6, 2) := by decide +kernel
theorem dX3_init_57 : decode cX3_init 57 = .ok (.newarray .int, 2) := by decide +kernel
theorem dX3_init_59 : decode cX3_init 59 = .ok (.putfield 34, 3) := by decide +kernel
theorem dX3_init_62 : decode cX3_init 62 = .ok (.aload_n 0, 1) := by decide +kernel
theorem dX3_init_63 : decode cX3_init 63 = .ok (.iconst 0, 1) := by decide +kernel
theorem dX3_init_64 : decode cX3_init 64 = .ok (.putfield 37, 3) := by decide +kernel
theorem dX3_init_67 : decode cX3_init 67 = .ok (.aload_n 0, 1) := by decide +kernel
theorem dX3_init_68 : decode cX3_init 68 = .ok (.bipush 16, 2) := by decide +kernel
theorem dX3_init_70 : decode cX3_init 70 = .ok (.newarray .int, 2) := by decide +kernel
theorem dX3_init_72 : decode cX3_init 72 = .ok (.putfield 40, 3) := by decide +kernel
theorem dX3_init_75 : decode cX3_init 75 = .ok (.aload_n 0, 1) := by decide +kernel
theorem dX3_init_76 : decode cX3_init 76 = .ok (.bipush 16, 2) := by decide +kernel
theorem dX3_init_78 : decode cX3_init 78 = .ok (.newarray .int, 2) := by decide +kernel
theorem dX3_init_80 : decode cX3_init 80 = .ok (.putfield 43, 3) := by decide +kernel
theorem dX3_init_83 : decode cX3_init 83 = .ok (.aload_n 0, 1) := by decide +kernel
theorem dX3_init_84 : decode cX3_init 84 = .ok (.bipush 96, 2) := by decide +kernel
theorem dX3_init_86 : decode cX3_init 86 = .ok (.newarray .int, 2) := by decide +kernel
theorem dX3_init_88 : decode cX3_init 88 = .ok (.putfield 46, 3) := by decide +kernel
theorem dX3_init_91 : decode cX3_init 91 = .ok (.aload_n 0, 1) := by decide +kernel
theorem dX3_init_92 : decode cX3_init 92 = .ok (.getfield 46, 3) := by decide +kernel
theorem dX3_init_95 : decode cX3_init 95 = .ok (.iconst (-1), 1) := by decide +kernel
theorem dX3_init_96 : decode cX3_init 96 = .ok (.invokestatic 49, 3) := by decide +kernel
theorem dX3_init_99 : decode cX3_init 99 = .ok (.aload_n 0, 1) := by decide +kernel
theorem dX3_init_100 : decode cX3_init 100 = .ok (.getfield 22, 3) := by decide +kernel
theorem dX3_init_103 : decode cX3_init 103 = .ok (.iconst (-1), 1) := by decide +kernel
theorem dX3_init_104 : decode cX3_init 104 = .ok (.invokestatic 49, 3) := by decide +kernel
theorem dX3_init_107 : decode cX3_init 107 = .ok (.return_, 1) := by decide +kernel
theorem dX3_becomeLike_0 : decode cX3_becomeLike 0 = .ok (.aload_n 0, 1) := by decide +kernel
theorem dX3_becomeLike_1 : decode cX3_becomeLike 1 = .ok (.aload_n 1, 1) := by decide +kernel
theorem dX3_becomeLike_2 : decode cX3_becomeLike 2 = .ok (.getfield 9, 3) := by decide +kernel
theorem dX3_becomeLike_5 : decode cX3_becomeLike 5 = .ok (.putfield 9, 3) := by decide +kernel
theorem dX3_becomeLike_8 : decode cX3_becomeLike 8 = .ok (.aload_n 1, 1) := by decide +kernel
theorem dX3_becomeLike_9 : decode cX3_becomeLike 9 = .ok (.getfield 15, 3) := by decide +kernel
theorem dX3_becomeLike_12 : decode cX3_becomeLike 12 = .ok (.iconst 0, 1) := by decide +kernel
theorem dX3_becomeLike_13 : decode cX3_becomeLike 13 = .ok (.aload_n 0, 1) := by decide +kernel
theorem dX3_becomeLike_14 : decode cX3_becomeLike 14 = .ok (.getfield 15, 3) := by decide +kernel
theorem dX3_becomeLike_17 : decode cX3_becomeLike 17 = .ok (.iconst 0, 1) := by decide +kernel
theorem dX3_becomeLike_18 : decode cX3_becomeLike 18 = .ok (.bipush 6, 2) := by decide +kernel
theorem dX3_becomeLike_20 : decode cX3_becomeLike 20 = .ok (.invokestatic 55, 3) := by decide +kernel
theorem dX3_becomeLike_23 : decode cX3_becomeLike 23 = .ok (.aload_n 1, 1) := by decide +kernel
theorem dX3_becomeLike_24 : decode cX3_becomeLike 24 = .ok (.getfield 19, 3) := by decide +kernel
theorem dX3_becomeLike_27 : decode cX3_becomeLike 27 = .ok (.iconst 0, 1) := by decide +kernel
theorem dX3_becomeLike_28 : decode cX3_becomeLike 28 = .ok (.aload_n 0, 1) := by decide +kernel
theorem dX3_becomeLike_29 : decode cX3_becomeLike 29 = .ok (.getfield 19, 3) := by decide +kernel
theorem dX3_becomeLike_32 : decode cX3_becomeLike 32 = .ok (.iconst 0, 1) := by decide +kernel
theorem dX3_becomeLike_33 : decode cX3_becomeLike 33 = .ok (.bipush 6, 2) := by decide +kernel
theorem dX3_becomeLike_35 : decode cX3_becomeLike 35 = .ok (.invokestatic 55, 3) := by decide +kernel
theorem dX3_becomeLike_38 : decode cX3_becomeLike 38 = .ok (.aload_n 1, 1) := by decide +kernel
theorem dX3_becomeLike_39 : decode cX3_becomeLike 39 = .ok (.getfield 22, 3) := by decide +kernel
theorem dX3_becomeLike_42 : decode cX3_becomeLike 42 = .ok (.iconst 0, 1) := by decide +kernel
theorem dX3_becomeLike_43 : decode cX3_becomeLike 43 = .ok (.aload_n 0, 1) := by decide +kernel
theorem dX3_becomeLike_44 : decode cX3_becomeLike 44 = .ok (.getfield 22, 3) := by decide +kernel
theorem dX3_becomeLike_47 : decode cX3_becomeLike 47 = .ok (.iconst 0, 1) := by decide +kernel
theorem dX3_becomeLike_48 : decode cX3_becomeLike 48 = .ok (.bipush 6, 2) := by decide +kernel
theorem dX3_becomeLike_50 : decode cX3_becomeLike 50 = .ok (.invokestatic 55, 3) := by decide +kernel
theorem dX3_becomeLike_53 : decode cX3_becomeLike 53 = .ok (.aload_n 0, 1) := by decide +kernel
theorem dX3_becomeLike_54 : decode cX3_becomeLike 54 = .ok (.aload_n 1, 1) := by decide +kernel
theorem dX3_becomeLike_55 : decode cX3_becomeLike 55 = .ok (.getfield 25, 3) := by decide +kernel
theorem dX3_becomeLike_58 : decode cX3_becomeLike 58 = .ok (.putfield 25, 3) := by decide +kernel
theorem dX3_becomeLike_61 : decode cX3_becomeLike 61 = .ok (.aload_n 1, 1) := by decide +kernel
theorem dX3_becomeLike_62 : decode cX3_becomeLike 62 = .ok (.getfield 28, 3) := by decide +kernel
theorem dX3_becomeLike_65 : decode cX3_becomeLike 65 = .ok (.iconst 0, 1) := by decide +kernel
theorem dX3_becomeLike_66 : decode cX3_becomeLike 66 = .ok (.aload_n 0, 1) := by decide +kernel
theorem dX3_becomeLike_67 : decode cX3_becomeLike 67 = .ok (.getfield 28, 3) := by decide +kernel
theorem dX3_becomeLike_70 : decode cX3_becomeLike 70 = .ok (.iconst 0, 1) := by decide +kernel
theorem dX3_becomeLike_71 : decode cX3_becomeLike 71 = .ok (.bipush 6, 2) := by decide +kernel
theorem dX3_becomeLike_73 : decode cX3_becomeLike 73 = .ok (.invokestatic 55, 3) := by decide +kernel
theorem dX3_becomeLike_76 : decode cX3_becomeLike 76 = .ok (.aload_n 1, 1) := by decide +kernel
theorem dX3_becomeLike_77 : decode cX3_becomeLike 77 = .ok (.getfield 31, 3) := by decide +kernel
theorem dX3_becomeLike_80 : decode cX3_becomeLike 80 = .ok (.iconst 0, 1) := by decide +kernel
theorem dX3_becomeLike_81 : decode cX3_becomeLike 81 = .ok (.aload_n 0, 1) := by decide +kernel
theorem dX3_becomeLike_82 : decode cX3_becomeLike 82 = .ok (.getfield 31, 3) := by decide +kernel
theorem dX3_becomeLike_85 : decode cX3_becomeLike 85 = .ok (.iconst 0, 1) := by decide +kernel
theorem dX3_becomeLike_86 : decode cX3_becomeLike 86 = .ok (.bipush 6, 2) := by decide +kernel
theorem dX3_becomeLike_88 : decode cX3_becomeLike 88 = .ok (.invokestatic 55, 3) := by decide +kernel
theorem dX3_becomeLike_91 : decode cX3_becomeLike 91 = .ok (.aload_n 1, 1) := by decide +kernel
theorem dX3_becomeLike_92 : decode cX3_becomeLike 92 = .ok (.getfield 34, 3) := by decide +kernel
theorem dX3_becomeLike_95 : decode cX3_becomeLike 95 = .ok (.iconst 0, 1) := by decide +kernel
theorem dX3_becomeLike_96 : decode cX3_becomeLike 96 = .ok (.aload_n 0, 1) := by decide +kernel
theorem dX3_becomeLike_97 : decode cX3_becomeLike 97 = .ok (.getfield 34, 3) := by decide +kernel
theorem dX3_becomeLike_100 : decode cX3_becomeLike 100 = .ok (.iconst 0, 1) := by decide +kernel
theorem dX3_becomeLike_101 : decode cX3_becomeLike 101 = .ok (.bipush 6, 2) := by decide +kernel
theorem dX3_becomeLike_103 : decode cX3_becomeLike 103 = .ok (.invokestatic 55, 3) := by decide +kernel
theorem dX3_becomeLike_106 : decode cX3_becomeLike 106 = .ok (.aload_n 0, 1) := by decide +kernel
theorem dX3_becomeLike_107 : decode cX3_becomeLike 107 = .ok (.aload_n 1, 1) := by decide +kernel
theorem dX3_becomeLike_108 : decode cX3_becomeLike 108 = .ok (.getfield 37, 3) := by decide +kernel
theorem dX3_becomeLike_111 : decode cX3_becomeLike 111 = .ok (.putfield 37, 3) := by decide +kernel
theorem dX3_becomeLike_114 : decode cX3_becomeLike 114 = .ok (.aload_n 1, 1) := by decide +kernel
theorem dX3_becomeLike_115 : decode cX3_becomeLike 115 = .ok (.getfield 40, 3) := by decide +kernel
theorem dX3_becomeLike_118 : decode cX3_becomeLike 118 = .ok (.iconst 0, 1) := by decide +kernel
theorem dX3_becomeLike_119 : decode cX3_becomeLike 119 = .ok (.aload_n 0, 1) := by decide +kernel
theorem dX3_becomeLike_120 : decode cX3_becomeLike 120 = .ok (.getfield 40, 3) := by decide +kernel
theorem dX3_becomeLike_123 : decode cX3_becomeLike 123 = .ok (.iconst 0, 1) := by decide +kernel
theorem dX3_becomeLike_124 : decode cX3_becomeLike 124 = .ok (.bipush 16, 2) := by decide +kernel
theorem dX3_becomeLike_126 : decode cX3_becomeLike 126 = .ok (.invokestatic 55, 3) := by decide +kernel
theorem dX3_becomeLike_129 : decode cX3_becomeLike 129 = .ok (.aload_n 1, 1) := by decide +kernel
theorem dX3_becomeLike_130 : decode cX3_becomeLike 130 = .ok (.getfield 43, 3) := by decide +kernel
theorem dX3_becomeLike_133 : decode cX3_becomeLike 133 = .ok (.iconst 0, 1) := by decide +kernel
theorem dX3_becomeLike_134 : decode cX3_becomeLike 134 = .ok (.aload_n 0, 1) := by decide +kernel
theorem dX3_becomeLike_135 : decode cX3_becomeLike 135 = .ok (.getfield 43, 3) := by decide +kernel
theorem dX3_becomeLike_138 : decode cX3_becomeLike 138 = .ok (.iconst 0, 1) := by decide +kernel
theorem dX3_becomeLike_139 : decode cX3_becomeLike 139 = .ok (.bipush 16, 2) := by decide +kernel
theorem dX3_becomeLike_141 : decode cX3_becomeLike 141 = .ok (.invokestatic 55, 3) := by decide +kernel
theorem dX3_becomeLike_144 : decode cX3_becomeLike 144 = .ok (.aload_n 1, 1) := by decide +kernel
theorem dX3_becomeLike_145 : decode cX3_becomeLike 145 = .ok (.getfield 46, 3) := by decide +kernel
theorem dX3_becomeLike_148 : decode cX3_becomeLike 148 = .ok (.iconst 0, 1) := by decide +kernel
theorem dX3_becomeLike_149 : decode cX3_becomeLike 149 = .ok (.aload_n 0, 1) := by decide +kernel
theorem dX3_becomeLike_150 : decode cX3_becomeLike 150 = .ok (.getfield 46, 3) := by decide +kernel
theorem dX3_becomeLike_153 : decode cX3_becomeLike 153 = .ok (.iconst 0, 1) := by decide +kernel
theorem dX3_becomeLike_154 : decode cX3_becomeLike 154 = .ok (.bipush 96, 2) := by decide +kernel
theorem dX3_becomeLike_156 : decode cX3_becomeLike 156 = .ok (.invokestatic 55, 3) := by decide +kernel
theorem dX3_becomeLike_159 : decode cX3_becomeLike 159 = .ok (.return_, 1) := by decide +kernel
theorem dX3_isScene_0 : decode cX3_isScene 0 = .ok (.iload_n 1, 1) := by decide +kernel
theorem dX3_isScene_1 : decode cX3_isScene 1 = .ok (.ifCond .lt 15, 3) := by decide +kernel
theorem dX3_isScene_4 : decode cX3_isScene 4 = .ok (.iload_n 1, 1) := by decide +kernel
theorem dX3_isScene_5 : decode cX3_isScene 5 = .ok (.aload_n 0, 1) := by decide +kernel
theorem dX3_isScene_6 : decode cX3_isScene 6 = .ok (.getfield 9, 3) := by decide +kernel
theorem dX3_isScene_9 : decode cX3_isScene 9 = .ok (.if_icmp .ge 7, 3) := by decide +kernel
theorem dX3_isScene_12 : decode cX3_isScene 12 = .ok (.iconst 1, 1) := by decide +kernel
theorem dX3_isScene_13 : decode cX3_isScene 13 = .ok (.goto 4, 3) := by decide +kernel
theorem dX3_isScene_16 : decode cX3_isScene 16 = .ok (.iconst 0, 1) := by decide +kernel
theorem dX3_isScene_17 : decode cX3_isScene 17 = .ok (.ireturn, 1) := by decide +kernel
theorem dX3_isThing_0 : decode cX3_isThing 0 = .ok (.iload_n 1, 1) := by decide +kernel
theorem dX3_isThing_1 : decode cX3_isThing 1 = .ok (.ifCond .lt 15, 3) := by decide +kernel
theorem dX3_isThing_4 : decode cX3_isThing 4 = .ok (.iload_n 1, 1) := by decide +kernel
theorem dX3_isThing_5 : decode cX3_isThing 5 = .ok (.aload_n 0, 1) := by decide +kernel
theorem dX3_isThing_6 : decode cX3_isThing 6 = .ok (.getfield 25, 3) := by decide +kernel
theorem dX3_isThing_9 : decode cX3_isThing 9 = .ok (.if_icmp .ge 7, 3) := by decide +kernel
theorem dX3_isThing_12 : decode cX3_isThing 12 = .ok (.iconst 1, 1) := by decide +kernel
theorem dX3_isThing_13 : decode cX3_isThing 13 = .ok (.goto 4, 3) := by decide +kernel
theorem dX3_isThing_16 : decode cX3_isThing 16 = .ok (.iconst 0, 1) := by decide +kernel
theorem dX3_isThing_17 : decode cX3_isThing 17 = .ok (.ireturn, 1) := by decide +kernel
theorem dX3_isTake_0 : decode cX3_isTake 0 = .ok (.iload_n 1, 1) := by decide +kernel
theorem dX3_isTake_1 : decode cX3_isTake 1 = .ok (.ifCond .lt 15, 3) := by decide +kernel
theorem dX3_isTake_4 : decode cX3_isTake 4 = .ok (.iload_n 1, 1) := by decide +kernel
theorem dX3_isTake_5 : decode cX3_isTake 5 = .ok (.aload_n 0, 1) := by decide +kernel
theorem dX3_isTake_6 : decode cX3_isTake 6 = .ok (.getfield 37, 3) := by decide +kernel
theorem dX3_isTake_9 : decode cX3_isTake 9 = .ok (.if_icmp .ge 7, 3) := by decide +kernel
theorem dX3_isTake_12 : decode cX3_isTake 12 = .ok (.iconst 1, 1) := by decide +kernel
theorem dX3_isTake_13 : decode cX3_isTake 13 = .ok (.goto 4, 3) := by decide +kernel
theorem dX3_isTake_16 : decode cX3_isTake 16 = .ok (.iconst 0, 1) := by decide +kernel
theorem dX3_isTake_17 : decode cX3_isTake 17 = .ok (.ireturn, 1) := by decide +kernel
theorem dX3_isSetOfScenes_0 : decode cX3_isSetOfScenes 0 = .ok (.iload_n 1, 1) := by decide +kernel
theorem dX3_isSetOfScenes_1 : decode cX3_isSetOfScenes 1 = .ok (.ifCond .lt 17, 3) := by decide +kernel
theorem dX3_isSetOfScenes_4 : decode cX3_isSetOfScenes 4 = .ok (.iload_n 1, 1) := by decide +kernel
theorem dX3_isSetOfScenes_5 : decode cX3_isSetOfScenes 5 = .ok (.iconst 1, 1) := by decide +kernel
theorem dX3_isSetOfScenes_6 : decode cX3_isSetOfScenes 6 = .ok (.aload_n 0, 1) := by decide +kernel
theorem dX3_isSetOfScenes_7 : decode cX3_isSetOfScenes 7 = .ok (.getfield 9, 3) := by decide +kernel
theorem dX3_isSetOfScenes_10 : decode cX3_isSetOfScenes 10 = .ok (.ishl, 1) := by decide +kernel
theorem dX3_isSetOfScenes_11 : decode cX3_isSetOfScenes 11 = .ok (.if_icmp .ge 7, 3) := by decide +kernel
theorem dX3_isSetOfScenes_14 : decode cX3_isSetOfScenes 14 = .ok (.iconst 1, 1) := by decide +kernel
theorem dX3_isSetOfScenes_15 : decode cX3_isSetOfScenes 15 = .ok (.goto 4, 3) := by decide +kernel
theorem dX3_isSetOfScenes_18 : decode cX3_isSetOfScenes 18 = .ok (.iconst 0, 1) := by decide +kernel
theorem dX3_isSetOfScenes_19 : decode cX3_isSetOfScenes 19 = .ok (.ireturn, 1) := by decide +kernel
theorem dX3_addScene_0 : decode cX3_addScene 0 = .ok (.aload_n 0, 1) := by decide +kernel
theorem dX3_addScene_1 : decode cX3_addScene 1 = .ok (.getfield 9, 3) := by decide +kernel
theorem dX3_addScene_4 : decode cX3_addScene 4 = .ok (.istore_n 3, 1) := by decide +kernel
theorem dX3_addScene_5 : decode cX3_addScene 5 = .ok (.aload_n 0, 1) := by decide +kernel
theorem dX3_addScene_6 : decode cX3_addScene 6 = .ok (.getfield 15, 3) := by decide +kernel
theorem dX3_addScene_9 : decode cX3_addScene 9 = .ok (.iload_n 3, 1) := by decide +kernel
theorem dX3_addScene_10 : decode cX3_addScene 10 = .ok (.iload_n 1, 1) := by decide +kernel
theorem dX3_addScene_11 : decode cX3_addScene 11 = .ok (.iastore, 1) := by decide +kernel
theorem dX3_addScene_12 : decode cX3_addScene 12 = .ok (.aload_n 0, 1) := by decide +kernel
theorem dX3_addScene_13 : decode cX3_addScene 13 = .ok (.getfield 19, 3) := by decide +kernel
theorem dX3_addScene_16 : decode cX3_addScene 16 = .ok (.iload_n 3, 1) := by decide +kernel
theorem dX3_addScene_17 : decode cX3_addScene 17 = .ok (.iload_n 2, 1) := by decide +kernel
theorem dX3_addScene_18 : decode cX3_addScene 18 = .ok (.iastore, 1) := by decide +kernel
end
section
theorem dX3_addScene_19 : decode cX3_addScene 19 = .ok (.aload_n 0, 1) := by decide +kernel
theorem dX3_addScene_20 : decode cX3_addScene 20 = .ok (.dup, 1) := by decide +kernel
theorem dX3_addScene_21 : decode cX3_addScene 21 = .ok (.getfield 9, 3) := by decide +kernel
theorem dX3_addScene_24 : decode cX3_addScene 24 = .ok (.iconst 1, 1) := by decide +kernel
theorem dX3_addScene_25 : decode cX3_addScene 25 = .ok (.iadd, 1) := by decide +kernel
theorem dX3_addScene_26 : decode cX3_addScene 26 = .ok (.putfield 9, 3) := by decide +kernel
theorem dX3_addScene_29 : decode cX3_addScene 29 = .ok (.iload_n 3, 1) := by decide +kernel
theorem dX3_addScene_30 : decode cX3_addScene 30 = .ok (.ireturn, 1) := by decide +kernel
theorem dX3_addThing_0 : decode cX3_addThing 0 = .ok (.aload_n 0, 1) := by decide +kernel
theorem dX3_addThing_1 : decode cX3_addThing 1 = .ok (.getfield 25, 3) := by decide +kernel
theorem dX3_addThing_4 : decode cX3_addThing 4 = .ok (.istore 4, 2) := by decide +kernel
theorem dX3_addThing_6 : decode cX3_addThing 6 = .ok (.aload_n 0, 1) := by decide +kernel
theorem dX3_addThing_7 : decode cX3_addThing 7 = .ok (.getfield 28, 3) := by decide +kernel
theorem dX3_addThing_10 : decode cX3_addThing 10 = .ok (.iload 4, 2) := by decide +kernel
theorem dX3_addThing_12 : decode cX3_addThing 12 = .ok (.iload_n 1, 1) := by decide +kernel
theorem dX3_addThing_13 : decode cX3_addThing 13 = .ok (.iastore, 1) := by decide +kernel
theorem dX3_addThing_14 : decode cX3_addThing 14 = .ok (.aload_n 0, 1) := by decide +kernel
theorem dX3_addThing_15 : decode cX3_addThing 15 = .ok (.getfield 31, 3) := by decide +kernel
theorem dX3_addThing_18 : decode cX3_addThing 18 = .ok (.iload 4, 2) := by decide +kernel
theorem dX3_addThing_20 : decode cX3_addThing 20 = .ok (.iload_n 2, 1) := by decide +kernel
theorem dX3_addThing_21 : decode cX3_addThing 21 = .ok (.iastore, 1) := by decide +kernel
theorem dX3_addThing_22 : decode cX3_addThing 22 = .ok (.aload_n 0, 1) := by decide +kernel
theorem dX3_addThing_23 : decode cX3_addThing 23 = .ok (.getfield 34, 3) := by decide +kernel
theorem dX3_addThing_26 : decode cX3_addThing 26 = .ok (.iload 4, 2) := by decide +kernel
theorem dX3_addThing_28 : decode cX3_addThing 28 = .ok (.iload_n 3, 1) := by decide +kernel
theorem dX3_addThing_29 : decode cX3_addThing 29 = .ok (.iastore, 1) := by decide +kernel
theorem dX3_addThing_30 : decode cX3_addThing 30 = .ok (.aload_n 0, 1) := by decide +kernel
theorem dX3_addThing_31 : decode cX3_addThing 31 = .ok (.dup, 1) := by decide +kernel
theorem dX3_addThing_32 : decode cX3_addThing 32 = .ok (.getfield 25, 3) := by decide +kernel
theorem dX3_addThing_35 : decode cX3_addThing 35 = .ok (.iconst 1, 1) := by decide +kernel
theorem dX3_addThing_36 : decode cX3_addThing 36 = .ok (.iadd, 1) := by decide +kernel
theorem dX3_addThing_37 : decode cX3_addThing 37 = .ok (.putfield 25, 3) := by decide +kernel
theorem dX3_addThing_40 : decode cX3_addThing 40 = .ok (.iload 4, 2) := by decide +kernel
theorem dX3_addThing_42 : decode cX3_addThing 42 = .ok (.ireturn, 1) := by decide +kernel
theorem dX3_addTake_0 : decode cX3_addTake 0 = .ok (.aload_n 0, 1) := by decide +kernel
theorem dX3_addTake_1 : decode cX3_addTake 1 = .ok (.getfield 37, 3) := by decide +kernel
theorem dX3_addTake_4 : decode cX3_addTake 4 = .ok (.istore_n 3, 1) := by decide +kernel
theorem dX3_addTake_5 : decode cX3_addTake 5 = .ok (.aload_n 0, 1) := by decide +kernel
theorem dX3_addTake_6 : decode cX3_addTake 6 = .ok (.getfield 40, 3) := by decide +kernel
theorem dX3_addTake_9 : decode cX3_addTake 9 = .ok (.iload_n 3, 1) := by decide +kernel
theorem dX3_addTake_10 : decode cX3_addTake 10 = .ok (.iload_n 1, 1) := by decide +kernel
theorem dX3_addTake_11 : decode cX3_addTake 11 = .ok (.iastore, 1) := by decide +kernel
theorem dX3_addTake_12 : decode cX3_addTake 12 = .ok (.aload_n 0, 1) := by decide +kernel
theorem dX3_addTake_13 : decode cX3_addTake 13 = .ok (.getfield 43, 3) := by decide +kernel
theorem dX3_addTake_16 : decode cX3_addTake 16 = .ok (.iload_n 3, 1) := by decide +kernel
theorem dX3_addTake_17 : decode cX3_addTake 17 = .ok (.iload_n 2, 1) := by decide +kernel
theorem dX3_addTake_18 : decode cX3_addTake 18 = .ok (.iastore, 1) := by decide +kernel
theorem dX3_addTake_19 : decode cX3_addTake 19 = .ok (.aload_n 0, 1) := by decide +kernel
theorem dX3_addTake_20 : decode cX3_addTake 20 = .ok (.dup, 1) := by decide +kernel
theorem dX3_addTake_21 : decode cX3_addTake 21 = .ok (.getfield 37, 3) := by decide +kernel
theorem dX3_addTake_24 : decode cX3_addTake 24 = .ok (.iconst 1, 1) := by decide +kernel
theorem dX3_addTake_25 : decode cX3_addTake 25 = .ok (.iadd, 1) := by decide +kernel
theorem dX3_addTake_26 : decode cX3_addTake 26 = .ok (.putfield 37, 3) := by decide +kernel
theorem dX3_addTake_29 : decode cX3_addTake 29 = .ok (.iload_n 3, 1) := by decide +kernel
theorem dX3_addTake_30 : decode cX3_addTake 30 = .ok (.ireturn, 1) := by decide +kernel
theorem dX3_measureOf_0 : decode cX3_measureOf 0 = .ok (.aload_n 0, 1) := by decide +kernel
theorem dX3_measureOf_1 : decode cX3_measureOf 1 = .ok (.getfield 46, 3) := by decide +kernel
theorem dX3_measureOf_4 : decode cX3_measureOf 4 = .ok (.iload_n 1, 1) := by decide +kernel
theorem dX3_measureOf_5 : decode cX3_measureOf 5 = .ok (.bipush 6, 2) := by decide +kernel
theorem dX3_measureOf_7 : decode cX3_measureOf 7 = .ok (.imul, 1) := by decide +kernel
theorem dX3_measureOf_8 : decode cX3_measureOf 8 = .ok (.iload_n 2, 1) := by decide +kernel
theorem dX3_measureOf_9 : decode cX3_measureOf 9 = .ok (.iadd, 1) := by decide +kernel
theorem dX3_measureOf_10 : decode cX3_measureOf 10 = .ok (.iaload, 1) := by decide +kernel
theorem dX3_measureOf_11 : decode cX3_measureOf 11 = .ok (.ireturn, 1) := by decide +kernel
theorem dX3_setMeasure_0 : decode cX3_setMeasure 0 = .ok (.aload_n 0, 1) := by decide +kernel
theorem dX3_setMeasure_1 : decode cX3_setMeasure 1 = .ok (.getfield 46, 3) := by decide +kernel
theorem dX3_setMeasure_4 : decode cX3_setMeasure 4 = .ok (.iload_n 1, 1) := by decide +kernel
theorem dX3_setMeasure_5 : decode cX3_setMeasure 5 = .ok (.bipush 6, 2) := by decide +kernel
theorem dX3_setMeasure_7 : decode cX3_setMeasure 7 = .ok (.imul, 1) := by decide +kernel
theorem dX3_setMeasure_8 : decode cX3_setMeasure 8 = .ok (.iload_n 2, 1) := by decide +kernel
theorem dX3_setMeasure_9 : decode cX3_setMeasure 9 = .ok (.iadd, 1) := by decide +kernel
theorem dX3_setMeasure_10 : decode cX3_setMeasure 10 = .ok (.iload_n 3, 1) := by decide +kernel
theorem dX3_setMeasure_11 : decode cX3_setMeasure 11 = .ok (.iastore, 1) := by decide +kernel
theorem dX3_setMeasure_12 : decode cX3_setMeasure 12 = .ok (.return_, 1) := by decide +kernel
theorem dX3_copyMeasures_0 : decode cX3_copyMeasures 0 = .ok (.iconst 0, 1) := by decide +kernel
theorem dX3_copyMeasures_1 : decode cX3_copyMeasures 1 = .ok (.istore_n 3, 1) := by decide +kernel
theorem dX3_copyMeasures_2 : decode cX3_copyMeasures 2 = .ok (.iconst 0, 1) := by decide +kernel
theorem dX3_copyMeasures_3 : decode cX3_copyMeasures 3 = .ok (.istore 4, 2) := by decide +kernel
theorem dX3_copyMeasures_5 : decode cX3_copyMeasures 5 = .ok (.iload 4, 2) := by decide +kernel
theorem dX3_copyMeasures_7 : decode cX3_copyMeasures 7 = .ok (.aload_n 0, 1) := by decide +kernel
theorem dX3_copyMeasures_8 : decode cX3_copyMeasures 8 = .ok (.getfield 25, 3) := by decide +kernel
theorem dX3_copyMeasures_11 : decode cX3_copyMeasures 11 = .ok (.if_icmp .ge 42, 3) := by decide +kernel
theorem dX3_copyMeasures_14 : decode cX3_copyMeasures 14 = .ok (.aload_n 0, 1) := by decide +kernel
theorem dX3_copyMeasures_15 : decode cX3_copyMeasures 15 = .ok (.iload_n 1, 1) := by decide +kernel
theorem dX3_copyMeasures_16 : decode cX3_copyMeasures 16 = .ok (.iload 4, 2) := by decide +kernel
theorem dX3_copyMeasures_18 : decode cX3_copyMeasures 18 = .ok (.invokevirtual 61, 3) := by decide +kernel
theorem dX3_copyMeasures_21 : decode cX3_copyMeasures 21 = .ok (.istore 5, 2) := by decide +kernel
theorem dX3_copyMeasures_23 : decode cX3_copyMeasures 23 = .ok (.aload_n 0, 1) := by decide +kernel
theorem dX3_copyMeasures_24 : decode cX3_copyMeasures 24 = .ok (.iload_n 2, 1) := by decide +kernel
theorem dX3_copyMeasures_25 : decode cX3_copyMeasures 25 = .ok (.iload 4, 2) := by decide +kernel
theorem dX3_copyMeasures_27 : decode cX3_copyMeasures 27 = .ok (.invokevirtual 61, 3) := by decide +kernel
theorem dX3_copyMeasures_30 : decode cX3_copyMeasures 30 = .ok (.iload 5, 2) := by decide +kernel
theorem dX3_copyMeasures_32 : decode cX3_copyMeasures 32 = .ok (.if_icmp .eq 6, 3) := by decide +kernel
theorem dX3_copyMeasures_35 : decode cX3_copyMeasures 35 = .ok (.iinc 3 1, 3) := by decide +kernel
theorem dX3_copyMeasures_38 : decode cX3_copyMeasures 38 = .ok (.aload_n 0, 1) := by decide +kernel
theorem dX3_copyMeasures_39 : decode cX3_copyMeasures 39 = .ok (.iload_n 2, 1) := by decide +kernel
theorem dX3_copyMeasures_40 : decode cX3_copyMeasures 40 = .ok (.iload 4, 2) := by decide +kernel
theorem dX3_copyMeasures_42 : decode cX3_copyMeasures 42 = .ok (.iload 5, 2) := by decide +kernel
theorem dX3_copyMeasures_44 : decode cX3_copyMeasures 44 = .ok (.invokevirtual 65, 3) := by decide +kernel
theorem dX3_copyMeasures_47 : decode cX3_copyMeasures 47 = .ok (.iinc 4 1, 3) := by decide +kernel
theorem dX3_copyMeasures_50 : decode cX3_copyMeasures 50 = .ok (.goto (-45), 3) := by decide +kernel
theorem dX3_copyMeasures_53 : decode cX3_copyMeasures 53 = .ok (.iload_n 3, 1) := by decide +kernel
theorem dX3_copyMeasures_54 : decode cX3_copyMeasures 54 = .ok (.ireturn, 1) := by decide +kernel
theorem dX3_countTakesOf_0 : decode cX3_countTakesOf 0 = .ok (.iconst 0, 1) := by decide +kernel
theorem dX3_countTakesOf_1 : decode cX3_countTakesOf 1 = .ok (.istore_n 2, 1) := by decide +kernel
theorem dX3_countTakesOf_2 : decode cX3_countTakesOf 2 = .ok (.iconst 0, 1) := by decide +kernel
theorem dX3_countTakesOf_3 : decode cX3_countTakesOf 3 = .ok (.istore_n 3, 1) := by decide +kernel
theorem dX3_countTakesOf_4 : decode cX3_countTakesOf 4 = .ok (.iload_n 3, 1) := by decide +kernel
theorem dX3_countTakesOf_5 : decode cX3_countTakesOf 5 = .ok (.aload_n 0, 1) := by decide +kernel
theorem dX3_countTakesOf_6 : decode cX3_countTakesOf 6 = .ok (.getfield 37, 3) := by decide +kernel
theorem dX3_countTakesOf_9 : decode cX3_countTakesOf 9 = .ok (.if_icmp .ge 22, 3) := by decide +kernel
theorem dX3_countTakesOf_12 : decode cX3_countTakesOf 12 = .ok (.aload_n 0, 1) := by decide +kernel
theorem dX3_countTakesOf_13 : decode cX3_countTakesOf 13 = .ok (.getfield 40, 3) := by decide +kernel
theorem dX3_countTakesOf_16 : decode cX3_countTakesOf 16 = .ok (.iload_n 3, 1) := by decide +kernel
theorem dX3_countTakesOf_17 : decode cX3_countTakesOf 17 = .ok (.iaload, 1) := by decide +kernel
theorem dX3_countTakesOf_18 : decode cX3_countTakesOf 18 = .ok (.iload_n 1, 1) := by decide +kernel
theorem dX3_countTakesOf_19 : decode cX3_countTakesOf 19 = .ok (.if_icmp .ne 6, 3) := by decide +kernel
theorem dX3_countTakesOf_22 : decode cX3_countTakesOf 22 = .ok (.iinc 2 1, 3) := by decide +kernel
theorem dX3_countTakesOf_25 : decode cX3_countTakesOf 25 = .ok (.iinc 3 1, 3) := by decide +kernel
theorem dX3_countTakesOf_28 : decode cX3_countTakesOf 28 = .ok (.goto (-24), 3) := by decide +kernel
theorem dX3_countTakesOf_31 : decode cX3_countTakesOf 31 = .ok (.iload_n 2, 1) := by decide +kernel
theorem dX3_countTakesOf_32 : decode cX3_countTakesOf 32 = .ok (.ireturn, 1) := by decide +kernel
theorem dX3_countThingsShownBy_0 : decode cX3_countThingsShownBy 0 = .ok (.iconst 0, 1) := by decide +kernel
theorem dX3_countThingsShownBy_1 : decode cX3_countThingsShownBy 1 = .ok (.istore_n 2, 1) := by decide +kernel
theorem dX3_countThingsShownBy_2 : decode cX3_countThingsShownBy 2 = .ok (.iconst 0, 1) := by decide +kernel
theorem dX3_countThingsShownBy_3 : decode cX3_countThingsShownBy 3 = .ok (.istore_n 3, 1) := by decide +kernel
theorem dX3_countThingsShownBy_4 : decode cX3_countThingsShownBy 4 = .ok (.iload_n 3, 1) := by decide +kernel
theorem dX3_countThingsShownBy_5 : decode cX3_countThingsShownBy 5 = .ok (.aload_n 0, 1) := by decide +kernel
theorem dX3_countThingsShownBy_6 : decode cX3_countThingsShownBy 6 = .ok (.getfield 25, 3) := by decide +kernel
theorem dX3_countThingsShownBy_9 : decode cX3_countThingsShownBy 9 = .ok (.if_icmp .ge 22, 3) := by decide +kernel
theorem dX3_countThingsShownBy_12 : decode cX3_countThingsShownBy 12 = .ok (.aload_n 0, 1) := by decide +kernel
theorem dX3_countThingsShownBy_13 : decode cX3_countThingsShownBy 13 = .ok (.iload_n 1, 1) := by decide +kernel
theorem dX3_countThingsShownBy_14 : decode cX3_countThingsShownBy 14 = .ok (.iload_n 3, 1) := by decide +kernel
theorem dX3_countThingsShownBy_15 : decode cX3_countThingsShownBy 15 = .ok (.invokevirtual 61, 3) := by decide +kernel
theorem dX3_countThingsShownBy_18 : decode cX3_countThingsShownBy 18 = .ok (.iconst (-1), 1) := by decide +kernel
theorem dX3_countThingsShownBy_19 : decode cX3_countThingsShownBy 19 = .ok (.if_icmp .eq 6, 3) := by decide +kernel
theorem dX3_countThingsShownBy_22 : decode cX3_countThingsShownBy 22 = .ok (.iinc 2 1, 3) := by decide +kernel
theorem dX3_countThingsShownBy_25 : decode cX3_countThingsShownBy 25 = .ok (.iinc 3 1, 3) := by decide +kernel
theorem dX3_countThingsShownBy_28 : decode cX3_countThingsShownBy 28 = .ok (.goto (-24), 3) := by decide +kernel
theorem dX3_countThingsShownBy_31 : decode cX3_countThingsShownBy 31 = .ok (.iload_n 2, 1) := by decide +kernel
theorem dX3_countThingsShownBy_32 : decode cX3_countThingsShownBy 32 = .ok (.ireturn, 1) := by decide +kernel
theorem dX3_countTakesThatShow_0 : decode cX3_countTakesThatShow 0 = .ok (.iconst 0, 1) := by decide +kernel
theorem dX3_countTakesThatShow_1 : decode cX3_countTakesThatShow 1 = .ok (.istore_n 2, 1) := by decide +kernel
theorem dX3_countTakesThatShow_2 : decode cX3_countTakesThatShow 2 = .ok (.iconst 0, 1) := by decide +kernel
theorem dX3_countTakesThatShow_3 : decode cX3_countTakesThatShow 3 = .ok (.istore_n 3, 1) := by decide +kernel
theorem dX3_countTakesThatShow_4 : decode cX3_countTakesThatShow 4 = .ok (.iload_n 3, 1) := by decide +kernel
theorem dX3_countTakesThatShow_5 : decode cX3_countTakesThatShow 5 = .ok (.aload_n 0, 1) := by decide +kernel
theorem dX3_countTakesThatShow_6 : decode cX3_countTakesThatShow 6 = .ok (.getfield 37, 3) := by decide +kernel
theorem dX3_countTakesThatShow_9 : decode cX3_countTakesThatShow 9 = .ok (.if_icmp .ge 22, 3) := by decide +kernel
theorem dX3_countTakesThatShow_12 : decode cX3_countTakesThatShow 12 = .ok (.aload_n 0, 1) := by decide +kernel
theorem dX3_countTakesThatShow_13 : decode cX3_countTakesThatShow 13 = .ok (.iload_n 3, 1) := by decide +kernel
theorem dX3_countTakesThatShow_14 : decode cX3_countTakesThatShow 14 = .ok (.iload_n 1, 1) := by decide +kernel
theorem dX3_countTakesThatShow_15 : decode cX3_countTakesThatShow 15 = .ok (.invokevirtual 61, 3) := by decide +kernel
theorem dX3_countTakesThatShow_18 : decode cX3_countTakesThatShow 18 = .ok (.iconst (-1), 1) := by decide +kernel
theorem dX3_countTakesThatShow_19 : decode cX3_countTakesThatShow 19 = .ok (.if_icmp .eq 6, 3) := by decide +kernel
theorem dX3_countTakesThatShow_22 : decode cX3_countTakesThatShow 22 = .ok (.iinc 2 1, 3) := by decide +kernel
theorem dX3_countTakesThatShow_25 : decode cX3_countTakesThatShow 25 = .ok (.iinc 3 1, 3) := by decide +kernel
theorem dX3_countTakesThatShow_28 : decode cX3_countTakesThatShow 28 = .ok (.goto (-24), 3) := by decide +kernel
theorem dX3_countTakesThatShow_31 : decode cX3_countTakesThatShow 31 = .ok (.iload_n 2, 1) := by decide +kernel
theorem dX3_countTakesThatShow_32 : decode cX3_countTakesThatShow 32 = .ok (.ireturn, 1) := by decide +kernel
theorem dX3_countScenesWithChosen_0 : decode cX3_countScenesWithChosen 0 = .ok (.iconst 0, 1) := by decide +kernel
theorem dX3_countScenesWithChosen_1 : decode cX3_countScenesWithChosen 1 = .ok (.istore_n 1, 1) := by decide +kernel
theorem dX3_countScenesWithChosen_2 : decode cX3_countScenesWithChosen 2 = .ok (.iconst 0, 1) := by decide +kernel
theorem dX3_countScenesWithChosen_3 : decode cX3_countScenesWithChosen 3 = .ok (.istore_n 2, 1) := by decide +kernel
theorem dX3_countScenesWithChosen_4 : decode cX3_countScenesWithChosen 4 = .ok (.iload_n 2, 1) := by decide +kernel
theorem dX3_countScenesWithChosen_5 : decode cX3_countScenesWithChosen 5 = .ok (.aload_n 0, 1) := by decide +kernel
theorem dX3_countScenesWithChosen_6 : decode cX3_countScenesWithChosen 6 = .ok (.getfield 9, 3) := by decide +kernel
theorem dX3_countScenesWithChosen_9 : decode cX3_countScenesWithChosen 9 = .ok (.if_icmp .ge 22, 3) := by decide +kernel
theorem dX3_countScenesWithChosen_12 : decode cX3_countScenesWithChosen 12 = .ok (.aload_n 0, 1) := by decide +kernel
theorem dX3_countScenesWithChosen_13 : decode cX3_countScenesWithChosen 13 = .ok (.getfield 22, 3) := by decide +kernel
theorem dX3_countScenesWithChosen_16 : decode cX3_countScenesWithChosen 16 = .ok (.iload_n 2, 1) := by decide +kernel
theorem dX3_countScenesWithChosen_17 : decode cX3_countScenesWithChosen 17 = .ok (.iaload, 1) := by decide +kernel
theorem dX3_countScenesWithChosen_18 : decode cX3_countScenesWithChosen 18 = .ok (.iconst (-1), 1) := by decide +kernel
theorem dX3_countScenesWithChosen_19 : decode cX3_countScenesWithChosen 19 = .ok (.if_icmp .eq 6, 3) := by decide +kernel
theorem dX3_countScenesWithChosen_22 : decode cX3_countScenesWithChosen 22 = .ok (.iinc 1 1, 3) := by decide +kernel
theorem dX3_countScenesWithChosen_25 : decode cX3_countScenesWithChosen 25 = .ok (.iinc 2 1, 3) := by decide +kernel
theorem dX3_countScenesWithChosen_28 : decode cX3_countScenesWithChosen 28 = .ok (.goto (-24), 3) := by decide +kernel
theorem dX3_countScenesWithChosen_31 : decode cX3_countScenesWithChosen 31 = .ok (.iload_n 1, 1) := by decide +kernel
theorem dX3_countScenesWithChosen_32 : decode cX3_countScenesWithChosen 32 = .ok (.ireturn, 1) := by decide +kernel
theorem dX3_orderOf_0 : decode cX3_orderOf 0 = .ok (.aload_n 0, 1) := by decide +kernel
theorem dX3_orderOf_1 : decode cX3_orderOf 1 = .ok (.getfield 15, 3) := by decide +kernel
theorem dX3_orderOf_4 : decode cX3_orderOf 4 = .ok (.iload_n 1, 1) := by decide +kernel
theorem dX3_orderOf_5 : decode cX3_orderOf 5 = .ok (.iaload, 1) := by decide +kernel
theorem dX3_orderOf_6 : decode cX3_orderOf 6 = .ok (.aload_n 0, 1) := by decide +kernel
theorem dX3_orderOf_7 : decode cX3_orderOf 7 = .ok (.getfield 15, 3) := by decide +kernel
theorem dX3_orderOf_10 : decode cX3_orderOf 10 = .ok (.iload_n 2, 1) := by decide +kernel
theorem dX3_orderOf_11 : decode cX3_orderOf 11 = .ok (.iaload, 1) := by decide +kernel
theorem dX3_orderOf_12 : decode cX3_orderOf 12 = .ok (.isub, 1) := by decide +kernel
theorem dX3_orderOf_13 : decode cX3_orderOf 13 = .ok (.istore_n 3, 1) := by decide +kernel
theorem dX3_orderOf_14 : decode cX3_orderOf 14 = .ok (.iload_n 3, 1) := by decide +kernel
theorem dX3_orderOf_15 : decode cX3_orderOf 15 = .ok (.ifCond .eq 7, 3) := by decide +kernel
theorem dX3_orderOf_18 : decode cX3_orderOf 18 = .ok (.iload_n 3, 1) := by decide +kernel
theorem dX3_orderOf_19 : decode cX3_orderOf 19 = .ok (.goto 16, 3) := by decide +kernel
theorem dX3_orderOf_22 : decode cX3_orderOf 22 = .ok (.aload_n 0, 1) := by decide +kernel
theorem dX3_orderOf_23 : decode cX3_orderOf 23 = .ok (.getfield 19, 3) := by decide +kernel
theorem dX3_orderOf_26 : decode cX3_orderOf 26 = .ok (.iload_n 1, 1) := by decide +kernel
theorem dX3_orderOf_27 : decode cX3_orderOf 27 = .ok (.iaload, 1) := by decide +kernel
theorem dX3_orderOf_28 : decode cX3_orderOf 28 = .ok (.aload_n 0, 1) := by decide +kernel
theorem dX3_orderOf_29 : decode cX3_orderOf 29 = .ok (.getfield 19, 3) := by decide +kernel
theorem dX3_orderOf_32 : decode cX3_orderOf 32 = .ok (.iload_n 2, 1) := by decide +kernel
theorem dX3_orderOf_33 : decode cX3_orderOf 33 = .ok (.iaload, 1) := by decide +kernel
theorem dX3_orderOf_34 : decode cX3_orderOf 34 = .ok (.isub, 1) := by decide +kernel
theorem dX3_orderOf_35 : decode cX3_orderOf 35 = .ok (.istore 4, 2) := by decide +kernel
theorem dX3_orderOf_37 : decode cX3_orderOf 37 = .ok (.iload 4, 2) := by decide +kernel
theorem dX3_orderOf_39 : decode cX3_orderOf 39 = .ok (.ifCond .ne 5, 3) := by decide +kernel
theorem dX3_orderOf_42 : decode cX3_orderOf 42 = .ok (.iconst 0, 1) := by decide +kernel
theorem dX3_orderOf_43 : decode cX3_orderOf 43 = .ok (.ireturn, 1) := by decide +kernel
theorem dX3_orderOf_44 : decode cX3_orderOf 44 = .ok (.iload 4, 2) := by decide +kernel
theorem dX3_orderOf_46 : decode cX3_orderOf 46 = .ok (.ifCond .ge 7, 3) := by decide +kernel
theorem dX3_orderOf_49 : decode cX3_orderOf 49 = .ok (.iconst 1, 1) := by decide +kernel
theorem dX3_orderOf_50 : decode cX3_orderOf 50 = .ok (.goto 4, 3) := by decide +kernel
theorem dX3_orderOf_53 : decode cX3_orderOf 53 = .ok (.iconst 2, 1) := by decide +kernel
theorem dX3_orderOf_54 : decode cX3_orderOf 54 = .ok (.ireturn, 1) := by decide +kernel
theorem dX3_healedBetween_0 : decode cX3_healedBetween 0 = .ok (.aload_n 0, 1) := by decide +kernel
theorem dX3_healedBetween_1 : decode cX3_healedBetween 1 = .ok (.getfield 31, 3) := by decide +kernel
theorem dX3_healedBetween_4 : decode cX3_healedBetween 4 = .ok (.iload_n 1, 1) := by decide +kernel
theorem dX3_healedBetween_5 : decode cX3_healedBetween 5 = .ok (.iaload, 1) := by decide +kernel
theorem dX3_healedBetween_6 : decode cX3_healedBetween 6 = .ok (.aload_n 0, 1) := by decide +kernel
theorem dX3_healedBetween_7 : decode cX3_healedBetween 7 = .ok (.getfield 15, 3) := by decide +kernel
theorem dX3_healedBetween_10 : decode cX3_healedBetween 10 = .ok (.iload_n 3, 1) := by decide +kernel
theorem dX3_healedBetween_11 : decode cX3_healedBetween 11 = .ok (.iaload, 1) := by decide +kernel
theorem dX3_healedBetween_12 : decode cX3_healedBetween 12 = .ok (.aload_n 0, 1) := by decide +kernel
theorem dX3_healedBetween_13 : decode cX3_healedBetween 13 = .ok (.getfield 15, 3) := by decide +kernel
theorem dX3_healedBetween_16 : decode cX3_healedBetween 16 = .ok (.iload_n 2, 1) := by decide +kernel
theorem dX3_healedBetween_17 : decode cX3_healedBetween 17 = .ok (.iaload, 1) := by decide +kernel
theorem dX3_healedBetween_18 : decode cX3_healedBetween 18 = .ok (.isub, 1) := by decide +kernel
theorem dX3_healedBetween_19 : decode cX3_healedBetween 19 = .ok (.imul, 1) := by decide +kernel
theorem dX3_healedBetween_20 : decode cX3_healedBetween 20 = .ok (.ireturn, 1) := by decide +kernel
theorem dX3_doClash_0 : decode cX3_doClash 0 = .ok (.aload_n 0, 1) := by decide +kernel
theorem dX3_doClash_1 : decode cX3_doClash 1 = .ok (.getfield 40, 3) := by decide +kernel
theorem dX3_doClash_4 : decode cX3_doClash 4 = .ok (.iload_n 1, 1) := by decide +kernel
theorem dX3_doClash_5 : decode cX3_doClash 5 = .ok (.iaload, 1) := by decide +kernel
theorem dX3_doClash_6 : decode cX3_doClash 6 = .ok (.istore 4, 2) := by decide +kernel
theorem dX3_doClash_8 : decode cX3_doClash 8 = .ok (.aload_n 0, 1) := by decide +kernel
theorem dX3_doClash_9 : decode cX3_doClash 9 = .ok (.getfield 40, 3) := by decide +kernel
theorem dX3_doClash_12 : decode cX3_doClash 12 = .ok (.iload_n 2, 1) := by decide +kernel
theorem dX3_doClash_13 : decode cX3_doClash 13 = .ok (.iaload, 1) := by decide +kernel
theorem dX3_doClash_14 : decode cX3_doClash 14 = .ok (.istore 5, 2) := by decide +kernel
theorem dX3_doClash_16 : decode cX3_doClash 16 = .ok (.aload_n 0, 1) := by decide +kernel
theorem dX3_doClash_17 : decode cX3_doClash 17 = .ok (.iload_n 1, 1) := by decide +kernel
theorem dX3_doClash_18 : decode cX3_doClash 18 = .ok (.iload_n 3, 1) := by decide +kernel
theorem dX3_doClash_19 : decode cX3_doClash 19 = .ok (.invokevirtual 61, 3) := by decide +kernel
theorem dX3_doClash_22 : decode cX3_doClash 22 = .ok (.istore 6, 2) := by decide +kernel
theorem dX3_doClash_24 : decode cX3_doClash 24 = .ok (.aload_n 0, 1) := by decide +kernel
theorem dX3_doClash_25 : decode cX3_doClash 25 = .ok (.iload_n 2, 1) := by decide +kernel
theorem dX3_doClash_26 : decode cX3_doClash 26 = .ok (.iload_n 3, 1) := by decide +kernel
theorem dX3_doClash_27 : decode cX3_doClash 27 = .ok (.invokevirtual 61, 3) := by decide +kernel
theorem dX3_doClash_30 : decode cX3_doClash 30 = .ok (.istore 7, 2) := by decide +kernel
theorem dX3_doClash_32 : decode cX3_doClash 32 = .ok (.iload 4, 2) := by decide +kernel
theorem dX3_doClash_34 : decode cX3_doClash 34 = .ok (.iload 5, 2) := by decide +kernel
theorem dX3_doClash_36 : decode cX3_doClash 36 = .ok (.if_icmp .eq 15, 3) := by decide +kernel
theorem dX3_doClash_39 : decode cX3_doClash 39 = .ok (.iload 6, 2) := by decide +kernel
theorem dX3_doClash_41 : decode cX3_doClash 41 = .ok (.iconst (-1), 1) := by decide +kernel
theorem dX3_doClash_42 : decode cX3_doClash 42 = .ok (.if_icmp .eq 9, 3) := by decide +kernel
theorem dX3_doClash_45 : decode cX3_doClash 45 = .ok (.iload 7, 2) := by decide +kernel
theorem dX3_doClash_47 : decode cX3_doClash 47 = .ok (.iconst (-1), 1) := by decide +kernel
theorem dX3_doClash_48 : decode cX3_doClash 48 = .ok (.if_icmp .ne 5, 3) := by decide +kernel
theorem dX3_doClash_51 : decode cX3_doClash 51 = .ok (.iconst 0, 1) := by decide +kernel
theorem dX3_doClash_52 : decode cX3_doClash 52 = .ok (.ireturn, 1) := by decide +kernel
theorem dX3_doClash_53 : decode cX3_doClash 53 = .ok (.aload_n 0, 1) := by decide +kernel
theorem dX3_doClash_54 : decode cX3_doClash 54 = .ok (.getfield 28, 3) := by decide +kernel
theorem dX3_doClash_57 : decode cX3_doClash 57 = .ok (.iload_n 3, 1) := by decide +kernel
theorem dX3_doClash_58 : decode cX3_doClash 58 = .ok (.iaload, 1) := by decide +kernel
theorem dX3_doClash_59 : decode cX3_doClash 59 = .ok (.ifCond .ne 33, 3) := by decide +kernel
theorem dX3_doClash_62 : decode cX3_doClash 62 = .ok (.aload_n 0, 1) := by decide +kernel
theorem dX3_doClash_63 : decode cX3_doClash 63 = .ok (.getfield 15, 3) := by decide +kernel
theorem dX3_doClash_66 : decode cX3_doClash 66 = .ok (.iload 4, 2) := by decide +kernel
theorem dX3_doClash_68 : decode cX3_doClash 68 = .ok (.iaload, 1) := by decide +kernel
theorem dX3_doClash_69 : decode cX3_doClash 69 = .ok (.aload_n 0, 1) := by decide +kernel
theorem dX3_doClash_70 : decode cX3_doClash 70 = .ok (.getfield 15, 3) := by decide +kernel
theorem dX3_doClash_73 : decode cX3_doClash 73 = .ok (.iload 5, 2) := by decide +kernel
theorem dX3_doClash_75 : decode cX3_doClash 75 = .ok (.iaload, 1) := by decide +kernel
theorem dX3_doClash_76 : decode cX3_doClash 76 = .ok (.if_icmp .ne 14, 3) := by decide +kernel
theorem dX3_doClash_79 : decode cX3_doClash 79 = .ok (.iload 6, 2) := by decide +kernel
theorem dX3_doClash_81 : decode cX3_doClash 81 = .ok (.iload 7, 2) := by decide +kernel
theorem dX3_doClash_83 : decode cX3_doClash 83 = .ok (.if_icmp .eq 7, 3) := by decide +kernel
theorem dX3_doClash_86 : decode cX3_doClash 86 = .ok (.iconst 1, 1) := by decide +kernel
theorem dX3_doClash_87 : decode cX3_doClash 87 = .ok (.goto 4, 3) := by decide +kernel
theorem dX3_doClash_90 : decode cX3_doClash 90 = .ok (.iconst 0, 1) := by decide +kernel
theorem dX3_doClash_91 : decode cX3_doClash 91 = .ok (.ireturn, 1) := by decide +kernel
theorem dX3_doClash_92 : decode cX3_doClash 92 = .ok (.aload_n 0, 1) := by decide +kernel
theorem dX3_doClash_93 : decode cX3_doClash 93 = .ok (.iload 4, 2) := by decide +kernel
theorem dX3_doClash_95 : decode cX3_doClash 95 = .ok (.iload 5, 2) := by decide +kernel
theorem dX3_doClash_97 : decode cX3_doClash 97 = .ok (.invokevirtual 69, 3) := by decide +kernel
theorem dX3_doClash_100 : decode cX3_doClash 100 = .ok (.lookupswitch 66 #[(1, 28), (2, 47)], 28) := by decide +kernel
theorem dX3_doClash_128 : decode cX3_doClash 128 = .ok (.aload_n 0, 1) := by decide +kernel
theorem dX3_doClash_129 : decode cX3_doClash 129 = .ok (.iload_n 3, 1) := by decide +kernel
theorem dX3_doClash_130 : decode cX3_doClash 130 = .ok (.iload 6, 2) := by decide +kernel
theorem dX3_doClash_132 : decode cX3_doClash 132 = .ok (.iload 7, 2) := by decide +kernel
theorem dX3_doClash_134 : decode cX3_doClash 134 = .ok (.aload_n 0, 1) := by decide +kernel
theorem dX3_doClash_135 : decode cX3_doClash 135 = .ok (.iload_n 3, 1) := by decide +kernel
theorem dX3_doClash_136 : decode cX3_doClash 136 = .ok (.iload 4, 2) := by decide +kernel
theorem dX3_doClash_138 : decode cX3_doClash 138 = .ok (.iload 5, 2) := by decide +kernel
theorem dX3_doClash_140 : decode cX3_doClash 140 = .ok (.invokevirtual 72, 3) := by decide +kernel
theorem dX3_doClash_143 : decode cX3_doClash 143 = .ok (.invokevirtual 76, 3) := by decide +kernel
theorem dX3_doClash_146 : decode cX3_doClash 146 = .ok (.ireturn, 1) := by decide +kernel
theorem dX3_doClash_147 : decode cX3_doClash 147 = .ok (.aload_n 0, 1) := by decide +kernel
theorem dX3_doClash_148 : decode cX3_doClash 148 = .ok (.iload_n 3, 1) := by decide +kernel
theorem dX3_doClash_149 : decode cX3_doClash 149 = .ok (.iload 7, 2) := by decide +kernel
theorem dX3_doClash_151 : decode cX3_doClash 151 = .ok (.iload 6, 2) := by decide +kernel
theorem dX3_doClash_153 : decode cX3_doClash 153 = .ok (.aload_n 0, 1) := by decide +kernel
theorem dX3_doClash_154 : decode cX3_doClash 154 = .ok (.iload_n 3, 1) := by decide +kernel
theorem dX3_doClash_155 : decode cX3_doClash 155 = .ok (.iload 5, 2) := by decide +kernel
theorem dX3_doClash_157 : decode cX3_doClash 157 = .ok (.iload 4, 2) := by decide +kernel
theorem dX3_doClash_159 : decode cX3_doClash 159 = .ok (.invokevirtual 72, 3) := by decide +kernel
theorem dX3_doClash_162 : decode cX3_doClash 162 = .ok (.invokevirtual 76, 3) := by decide +kernel
theorem dX3_doClash_165 : decode cX3_doClash 165 = .ok (.ireturn, 1) := by decide +kernel
theorem dX3_doClash_166 : decode cX3_doClash 166 = .ok (.iconst 0, 1) := by decide +kernel
theorem dX3_doClash_167 : decode cX3_doClash 167 = .ok (.ireturn, 1) := by decide +kernel
theorem dX3_breaksLaw_0 : decode cX3_breaksLaw 0 = .ok (.aload_n 0, 1) := by decide +kernel
theorem dX3_breaksLaw_1 : decode cX3_breaksLaw 1 = .ok (.getfield 28, 3) := by decide +kernel
theorem dX3_breaksLaw_4 : decode cX3_breaksLaw 4 = .ok (.iload_n 1, 1) := by decide +kernel
theorem dX3_breaksLaw_5 : decode cX3_breaksLaw 5 = .ok (.iaload, 1) := by decide +kernel
theorem dX3_breaksLaw_6 : decode cX3_breaksLaw 6 = .ok (.tableswitch 66 1 3 #[26, 37, 48], 26) := by decide +kernel
theorem dX3_breaksLaw_32 : decode cX3_breaksLaw 32 = .ok (.iload_n 3, 1) := by decide +kernel
theorem dX3_breaksLaw_33 : decode cX3_breaksLaw 33 = .ok (.iload_n 2, 1) := by decide +kernel
theorem dX3_breaksLaw_34 : decode cX3_breaksLaw 34 = .ok (.if_icmp .le 7, 3) := by decide +kernel
theorem dX3_breaksLaw_37 : decode cX3_breaksLaw 37 = .ok (.iconst 1, 1) := by decide +kernel
theorem dX3_breaksLaw_38 : decode cX3_breaksLaw 38 = .ok (.goto 4, 3) := by decide +kernel
theorem dX3_breaksLaw_41 : decode cX3_breaksLaw 41 = .ok (.iconst 0, 1) := by decide +kernel
theorem dX3_breaksLaw_42 : decode cX3_breaksLaw 42 = .ok (.ireturn, 1) := by decide +kernel
theorem dX3_breaksLaw_43 : decode cX3_breaksLaw 43 = .ok (.iload_n 3, 1) := by decide +kernel
theorem dX3_breaksLaw_44 : decode cX3_breaksLaw 44 = .ok (.iload_n 2, 1) := by decide +kernel
theorem dX3_breaksLaw_45 : decode cX3_breaksLaw 45 = .ok (.if_icmp .ge 7, 3) := by decide +kernel
theorem dX3_breaksLaw_48 : decode cX3_breaksLaw 48 = .ok (.iconst 1, 1) := by decide +kernel
theorem dX3_breaksLaw_49 : decode cX3_breaksLaw 49 = .ok (.goto 4, 3) := by decide +kernel
theorem dX3_breaksLaw_52 : decode cX3_breaksLaw 52 = .ok (.iconst 0, 1) := by decide +kernel
theorem dX3_breaksLaw_53 : decode cX3_breaksLaw 53 = .ok (.ireturn, 1) := by decide +kernel
theorem dX3_breaksLaw_54 : decode cX3_breaksLaw 54 = .ok (.iload_n 3, 1) := by decide +kernel
theorem dX3_breaksLaw_55 : decode cX3_breaksLaw 55 = .ok (.iconst 0, 1) := by decide +kernel
theorem dX3_breaksLaw_56 : decode cX3_breaksLaw 56 = .ok (.iload_n 2, 1) := by decide +kernel
theorem dX3_breaksLaw_57 : decode cX3_breaksLaw 57 = .ok (.iload 4, 2) := by decide +kernel
theorem dX3_breaksLaw_59 : decode cX3_breaksLaw 59 = .ok (.isub, 1) := by decide +kernel
theorem dX3_breaksLaw_60 : decode cX3_breaksLaw 60 = .ok (.invokestatic 80, 3) := by decide +kernel
theorem dX3_breaksLaw_63 : decode cX3_breaksLaw 63 = .ok (.if_icmp .eq 7, 3) := by decide +kernel
theorem dX3_breaksLaw_66 : decode cX3_breaksLaw 66 = .ok (.iconst 1, 1) := by decide +kernel
theorem dX3_breaksLaw_67 : decode cX3_breaksLaw 67 = .ok (.goto 4, 3) := by decide +kernel
theorem dX3_breaksLaw_70 : decode cX3_breaksLaw 70 = .ok (.iconst 0, 1) := by decide +kernel
theorem dX3_breaksLaw_71 : decode cX3_breaksLaw 71 = .ok (.ireturn, 1) := by decide +kernel
theorem dX3_breaksLaw_72 : decode cX3_breaksLaw 72 = .ok (.iconst 0, 1) := by decide +kernel
theorem dX3_breaksLaw_73 : decode cX3_breaksLaw 73 = .ok (.ireturn, 1) := by decide +kernel
theorem dX3_noiseOf_0 : decode cX3_noiseOf 0 = .ok (.iconst 0, 1) := by decide +kernel
theorem dX3_noiseOf_1 : decode cX3_noiseOf 1 = .ok (.istore_n 3, 1) := by decide +kernel
theorem dX3_noiseOf_2 : decode cX3_noiseOf 2 = .ok (.iconst 0, 1) := by decide +kernel
theorem dX3_noiseOf_3 : decode cX3_noiseOf 3 = .ok (.istore 4, 2) := by decide +kernel
theorem dX3_noiseOf_5 : decode cX3_noiseOf 5 = .ok (.iload 4, 2) := by decide +kernel
theorem dX3_noiseOf_7 : decode cX3_noiseOf 7 = .ok (.aload_n 0, 1) := by decide +kernel
theorem dX3_noiseOf_8 : decode cX3_noiseOf 8 = .ok (.getfield 25, 3) := by decide +kernel
theorem dX3_noiseOf_11 : decode cX3_noiseOf 11 = .ok (.if_icmp .ge 30, 3) := by decide +kernel
theorem dX3_noiseOf_14 : decode cX3_noiseOf 14 = .ok (.aload_n 0, 1) := by decide +kernel
theorem dX3_noiseOf_15 : decode cX3_noiseOf 15 = .ok (.iload_n 1, 1) := by decide +kernel
theorem dX3_noiseOf_16 : decode cX3_noiseOf 16 = .ok (.iload_n 2, 1) := by decide +kernel
theorem dX3_noiseOf_17 : decode cX3_noiseOf 17 = .ok (.iload 4, 2) := by decide +kernel
theorem dX3_noiseOf_19 : decode cX3_noiseOf 19 = .ok (.invokevirtual 85, 3) := by decide +kernel
theorem dX3_noiseOf_22 : decode cX3_noiseOf 22 = .ok (.ifCond .eq 13, 3) := by decide +kernel
theorem dX3_noiseOf_25 : decode cX3_noiseOf 25 = .ok (.iload_n 3, 1) := by decide +kernel
theorem dX3_noiseOf_26 : decode cX3_noiseOf 26 = .ok (.aload_n 0, 1) := by decide +kernel
theorem dX3_noiseOf_27 : decode cX3_noiseOf 27 = .ok (.getfield 34, 3) := by decide +kernel
theorem dX3_noiseOf_30 : decode cX3_noiseOf 30 = .ok (.iload 4, 2) := by decide +kernel
theorem dX3_noiseOf_32 : decode cX3_noiseOf 32 = .ok (.iaload, 1) := by decide +kernel
theorem dX3_noiseOf_33 : decode cX3_noiseOf 33 = .ok (.iadd, 1) := by decide +kernel
theorem dX3_noiseOf_34 : decode cX3_noiseOf 34 = .ok (.istore_n 3, 1) := by decide +kernel
theorem dX3_noiseOf_35 : decode cX3_noiseOf 35 = .ok (.iinc 4 1, 3) := by decide +kernel
theorem dX3_noiseOf_38 : decode cX3_noiseOf 38 = .ok (.goto (-33), 3) := by decide +kernel
theorem dX3_noiseOf_41 : decode cX3_noiseOf 41 = .ok (.iload_n 3, 1) := by decide +kernel
theorem dX3_noiseOf_42 : decode cX3_noiseOf 42 = .ok (.ireturn, 1) := by decide +kernel
theorem dX3_countNoisyPairs_0 : decode cX3_countNoisyPairs 0 = .ok (.iconst 0, 1) := by decide +kernel
theorem dX3_countNoisyPairs_1 : decode cX3_countNoisyPairs 1 = .ok (.istore_n 1, 1) := by decide +kernel
theorem dX3_countNoisyPairs_2 : decode cX3_countNoisyPairs 2 = .ok (.iconst 0, 1) := by decide +kernel
theorem dX3_countNoisyPairs_3 : decode cX3_countNoisyPairs 3 = .ok (.istore_n 2, 1) := by decide +kernel
theorem dX3_countNoisyPairs_4 : decode cX3_countNoisyPairs 4 = .ok (.iload_n 2, 1) := by decide +kernel
theorem dX3_countNoisyPairs_5 : decode cX3_countNoisyPairs 5 = .ok (.aload_n 0, 1) := by decide +kernel
theorem dX3_countNoisyPairs_6 : decode cX3_countNoisyPairs 6 = .ok (.getfield 37, 3) := by decide +kernel
theorem dX3_countNoisyPairs_9 : decode cX3_countNoisyPairs 9 = .ok (.if_icmp .ge 34, 3) := by decide +kernel
theorem dX3_countNoisyPairs_12 : decode cX3_countNoisyPairs 12 = .ok (.iconst 0, 1) := by decide +kernel
theorem dX3_countNoisyPairs_13 : decode cX3_countNoisyPairs 13 = .ok (.istore_n 3, 1) := by decide +kernel
theorem dX3_countNoisyPairs_14 : decode cX3_countNoisyPairs 14 = .ok (.iload_n 3, 1) := by decide +kernel
theorem dX3_countNoisyPairs_15 : decode cX3_countNoisyPairs 15 = .ok (.iload_n 2, 1) := by decide +kernel
theorem dX3_countNoisyPairs_16 : decode cX3_countNoisyPairs 16 = .ok (.if_icmp .ge 21, 3) := by decide +kernel
theorem dX3_countNoisyPairs_19 : decode cX3_countNoisyPairs 19 = .ok (.aload_n 0, 1) := by decide +kernel
theorem dX3_countNoisyPairs_20 : decode cX3_countNoisyPairs 20 = .ok (.iload_n 2, 1) := by decide +kernel
theorem dX3_countNoisyPairs_21 : decode cX3_countNoisyPairs 21 = .ok (.iload_n 3, 1) := by decide +kernel
theorem dX3_countNoisyPairs_22 : decode cX3_countNoisyPairs 22 = .ok (.invokevirtual 89, 3) := by decide +kernel
theorem dX3_countNoisyPairs_25 : decode cX3_countNoisyPairs 25 = .ok (.ifCond .le 6, 3) := by decide +kernel
theorem dX3_countNoisyPairs_28 : decode cX3_countNoisyPairs 28 = .ok (.iinc 1 1, 3) := by decide +kernel
theorem dX3_countNoisyPairs_31 : decode cX3_countNoisyPairs 31 = .ok (.iinc 3 1, 3) := by decide +kernel
theorem dX3_countNoisyPairs_34 : decode cX3_countNoisyPairs 34 = .ok (.goto (-20), 3) := by decide +kernel
theorem dX3_countNoisyPairs_37 : decode cX3_countNoisyPairs 37 = .ok (.iinc 2 1, 3) := by decide +kernel
theorem dX3_countNoisyPairs_40 : decode cX3_countNoisyPairs 40 = .ok (.goto (-36), 3) := by decide +kernel
theorem dX3_countNoisyPairs_43 : decode cX3_countNoisyPairs 43 = .ok (.iload_n 1, 1) := by decide +kernel
theorem dX3_countNoisyPairs_44 : decode cX3_countNoisyPairs 44 = .ok (.ireturn, 1) := by decide +kernel
theorem dX3_areBothChosen_0 : decode cX3_areBothChosen 0 = .ok (.aload_n 0, 1) := by decide +kernel
theorem dX3_areBothChosen_1 : decode cX3_areBothChosen 1 = .ok (.getfield 22, 3) := by decide +kernel
theorem dX3_areBothChosen_4 : decode cX3_areBothChosen 4 = .ok (.iload_n 1, 1) := by decide +kernel
theorem dX3_areBothChosen_5 : decode cX3_areBothChosen 5 = .ok (.iaload, 1) := by decide +kernel
theorem dX3_areBothChosen_6 : decode cX3_areBothChosen 6 = .ok (.iconst (-1), 1) := by decide +kernel
theorem dX3_areBothChosen_7 : decode cX3_areBothChosen 7 = .ok (.if_icmp .eq 17, 3) := by decide +kernel
theorem dX3_areBothChosen_10 : decode cX3_areBothChosen 10 = .ok (.aload_n 0, 1) := by decide +kernel
theorem dX3_areBothChosen_11 : decode cX3_areBothChosen 11 = .ok (.getfield 22, 3) := by decide +kernel
theorem dX3_areBothChosen_14 : decode cX3_areBothChosen 14 = .ok (.iload_n 2, 1) := by decide +kernel
theorem dX3_areBothChosen_15 : decode cX3_areBothChosen 15 = .ok (.iaload, 1) := by decide +kernel
theorem dX3_areBothChosen_16 : decode cX3_areBothChosen 16 = .ok (.iconst (-1), 1) := by decide +kernel
theorem dX3_areBothChosen_17 : decode cX3_areBothChosen 17 = .ok (.if_icmp .eq 7, 3) := by decide +kernel
theorem dX3_areBothChosen_20 : decode cX3_areBothChosen 20 = .ok (.iconst 1, 1) := by decide +kernel
theorem dX3_areBothChosen_21 : decode cX3_areBothChosen 21 = .ok (.goto 4, 3) := by decide +kernel
theorem dX3_areBothChosen_24 : decode cX3_areBothChosen 24 = .ok (.iconst 0, 1) := by decide +kernel
theorem dX3_areBothChosen_25 : decode cX3_areBothChosen 25 = .ok (.ireturn, 1) := by decide +kernel
theorem dX3_costOfChosen_0 : decode cX3_costOfChosen 0 = .ok (.iconst 0, 1) := by decide +kernel
theorem dX3_costOfChosen_1 : decode cX3_costOfChosen 1 = .ok (.istore_n 1, 1) := by decide +kernel
theorem dX3_costOfChosen_2 : decode cX3_costOfChosen 2 = .ok (.iconst 0, 1) := by decide +kernel
theorem dX3_costOfChosen_3 : decode cX3_costOfChosen 3 = .ok (.istore_n 2, 1) := by decide +kernel
theorem dX3_costOfChosen_4 : decode cX3_costOfChosen 4 = .ok (.iload_n 2, 1) := by decide +kernel
theorem dX3_costOfChosen_5 : decode cX3_costOfChosen 5 = .ok (.aload_n 0, 1) := by decide +kernel
theorem dX3_costOfChosen_6 : decode cX3_costOfChosen 6 = .ok (.getfield 9, 3) := by decide +kernel
theorem dX3_costOfChosen_9 : decode cX3_costOfChosen 9 = .ok (.if_icmp .ge 55, 3) := by decide +kernel
theorem dX3_costOfChosen_12 : decode cX3_costOfChosen 12 = .ok (.aload_n 0, 1) := by decide +kernel
theorem dX3_costOfChosen_13 : decode cX3_costOfChosen 13 = .ok (.getfield 22, 3) := by decide +kernel
theorem dX3_costOfChosen_16 : decode cX3_costOfChosen 16 = .ok (.iload_n 2, 1) := by decide +kernel
theorem dX3_costOfChosen_17 : decode cX3_costOfChosen 17 = .ok (.iaload, 1) := by decide +kernel
theorem dX3_costOfChosen_18 : decode cX3_costOfChosen 18 = .ok (.iconst (-1), 1) := by decide +kernel
theorem dX3_costOfChosen_19 : decode cX3_costOfChosen 19 = .ok (.if_icmp .eq 17, 3) := by decide +kernel
theorem dX3_costOfChosen_22 : decode cX3_costOfChosen 22 = .ok (.iload_n 1, 1) := by decide +kernel
theorem dX3_costOfChosen_23 : decode cX3_costOfChosen 23 = .ok (.aload_n 0, 1) := by decide +kernel
theorem dX3_costOfChosen_24 : decode cX3_costOfChosen 24 = .ok (.getfield 43, 3) := by decide +kernel
theorem dX3_costOfChosen_27 : decode cX3_costOfChosen 27 = .ok (.aload_n 0, 1) := by decide +kernel
theorem dX3_costOfChosen_28 : decode cX3_costOfChosen 28 = .ok (.getfield 22, 3) := by decide +kernel
theorem dX3_costOfChosen_31 : decode cX3_costOfChosen 31 = .ok (.iload_n 2, 1) := by decide +kernel
theorem dX3_costOfChosen_32 : decode cX3_costOfChosen 32 = .ok (.iaload, 1) := by decide +kernel
theorem dX3_costOfChosen_33 : decode cX3_costOfChosen 33 = .ok (.iaload, 1) := by decide +kernel
theorem dX3_costOfChosen_34 : decode cX3_costOfChosen 34 = .ok (.iadd, 1) := by decide +kernel
theorem dX3_costOfChosen_35 : decode cX3_costOfChosen 35 = .ok (.istore_n 1, 1) := by decide +kernel
theorem dX3_costOfChosen_36 : decode cX3_costOfChosen 36 = .ok (.iconst 0, 1) := by decide +kernel
theorem dX3_costOfChosen_37 : decode cX3_costOfChosen 37 = .ok (.istore_n 3, 1) := by decide +kernel
theorem dX3_costOfChosen_38 : decode cX3_costOfChosen 38 = .ok (.iload_n 3, 1) := by decide +kernel
theorem dX3_costOfChosen_39 : decode cX3_costOfChosen 39 = .ok (.iload_n 2, 1) := by decide +kernel
theorem dX3_costOfChosen_40 : decode cX3_costOfChosen 40 = .ok (.if_icmp .ge 18, 3) := by decide +kernel
theorem dX3_costOfChosen_43 : decode cX3_costOfChosen 43 = .ok (.iload_n 1, 1) := by decide +kernel
theorem dX3_costOfChosen_44 : decode cX3_costOfChosen 44 = .ok (.aload_n 0, 1) := by decide +kernel
theorem dX3_costOfChosen_45 : decode cX3_costOfChosen 45 = .ok (.iload_n 2, 1) := by decide +kernel
theorem dX3_costOfChosen_46 : decode cX3_costOfChosen 46 = .ok (.iload_n 3, 1) := by decide +kernel
theorem dX3_costOfChosen_47 : decode cX3_costOfChosen 47 = .ok (.invokevirtual 92, 3) := by decide +kernel
theorem dX3_costOfChosen_50 : decode cX3_costOfChosen 50 = .ok (.iadd, 1) := by decide +kernel
theorem dX3_costOfChosen_51 : decode cX3_costOfChosen 51 = .ok (.istore_n 1, 1) := by decide +kernel
theorem dX3_costOfChosen_52 : decode cX3_costOfChosen 52 = .ok (.iinc 3 1, 3) := by decide +kernel
theorem dX3_costOfChosen_55 : decode cX3_costOfChosen 55 = .ok (.goto (-17), 3) := by decide +kernel
theorem dX3_costOfChosen_58 : decode cX3_costOfChosen 58 = .ok (.iinc 2 1, 3) := by decide +kernel
theorem dX3_costOfChosen_61 : decode cX3_costOfChosen 61 = .ok (.goto (-57), 3) := by decide +kernel
theorem dX3_costOfChosen_64 : decode cX3_costOfChosen 64 = .ok (.iload_n 1, 1) := by decide +kernel
theorem dX3_costOfChosen_65 : decode cX3_costOfChosen 65 = .ok (.ireturn, 1) := by decide +kernel
theorem dX3_chosenNoiseOf_0 : decode cX3_chosenNoiseOf 0 = .ok (.aload_n 0, 1) := by decide +kernel
theorem dX3_chosenNoiseOf_1 : decode cX3_chosenNoiseOf 1 = .ok (.iload_n 1, 1) := by decide +kernel
theorem dX3_chosenNoiseOf_2 : decode cX3_chosenNoiseOf 2 = .ok (.iload_n 2, 1) := by decide +kernel
theorem dX3_chosenNoiseOf_3 : decode cX3_chosenNoiseOf 3 = .ok (.invokevirtual 95, 3) := by decide +kernel
theorem dX3_chosenNoiseOf_6 : decode cX3_chosenNoiseOf 6 = .ok (.ifCond .eq 22, 3) := by decide +kernel
theorem dX3_chosenNoiseOf_9 : decode cX3_chosenNoiseOf 9 = .ok (.aload_n 0, 1) := by decide +kernel
theorem dX3_chosenNoiseOf_10 : decode cX3_chosenNoiseOf 10 = .ok (.aload_n 0, 1) := by decide +kernel
theorem dX3_chosenNoiseOf_11 : decode cX3_chosenNoiseOf 11 = .ok (.getfield 22, 3) := by decide +kernel
theorem dX3_chosenNoiseOf_14 : decode cX3_chosenNoiseOf 14 = .ok (.iload_n 1, 1) := by decide +kernel
theorem dX3_chosenNoiseOf_15 : decode cX3_chosenNoiseOf 15 = .ok (.iaload, 1) := by decide +kernel
theorem dX3_chosenNoiseOf_16 : decode cX3_chosenNoiseOf 16 = .ok (.aload_n 0, 1) := by decide +kernel
theorem dX3_chosenNoiseOf_17 : decode cX3_chosenNoiseOf 17 = .ok (.getfield 22, 3) := by decide +kernel
theorem dX3_chosenNoiseOf_20 : decode cX3_chosenNoiseOf 20 = .ok (.iload_n 2, 1) := by decide +kernel
theorem dX3_chosenNoiseOf_21 : decode cX3_chosenNoiseOf 21 = .ok (.iaload, 1) := by decide +kernel
theorem dX3_chosenNoiseOf_22 : decode cX3_chosenNoiseOf 22 = .ok (.invokevirtual 89, 3) := by decide +kernel
theorem dX3_chosenNoiseOf_25 : decode cX3_chosenNoiseOf 25 = .ok (.goto 4, 3) := by decide +kernel
theorem dX3_chosenNoiseOf_28 : decode cX3_chosenNoiseOf 28 = .ok (.iconst 0, 1) := by decide +kernel
theorem dX3_chosenNoiseOf_29 : decode cX3_chosenNoiseOf 29 = .ok (.ireturn, 1) := by decide +kernel
theorem dX3_countChosenClashesBy_0 : decode cX3_countChosenClashesBy 0 = .ok (.iconst 0, 1) := by decide +kernel
theorem dX3_countChosenClashesBy_1 : decode cX3_countChosenClashesBy 1 = .ok (.istore_n 2, 1) := by decide +kernel
theorem dX3_countChosenClashesBy_2 : decode cX3_countChosenClashesBy 2 = .ok (.iconst 0, 1) := by decide +kernel
theorem dX3_countChosenClashesBy_3 : decode cX3_countChosenClashesBy 3 = .ok (.istore_n 3, 1) := by decide +kernel
theorem dX3_countChosenClashesBy_4 : decode cX3_countChosenClashesBy 4 = .ok (.iload_n 3, 1) := by decide +kernel
theorem dX3_countChosenClashesBy_5 : decode cX3_countChosenClashesBy 5 = .ok (.aload_n 0, 1) := by decide +kernel
theorem dX3_countChosenClashesBy_6 : decode cX3_countChosenClashesBy 6 = .ok (.getfield 9, 3) := by decide +kernel
theorem dX3_countChosenClashesBy_9 : decode cX3_countChosenClashesBy 9 = .ok (.if_icmp .ge 58, 3) := by decide +kernel
theorem dX3_countChosenClashesBy_12 : decode cX3_countChosenClashesBy 12 = .ok (.iconst 0, 1) := by decide +kernel
theorem dX3_countChosenClashesBy_13 : decode cX3_countChosenClashesBy 13 = .ok (.istore 4, 2) := by decide +kernel
theorem dX3_countChosenClashesBy_15 : decode cX3_countChosenClashesBy 15 = .ok (.iload 4, 2) := by decide +kernel
theorem dX3_countChosenClashesBy_17 : decode cX3_countChosenClashesBy 17 = .ok (.iload_n 3, 1) := by decide +kernel
theorem dX3_countChosenClashesBy_18 : decode cX3_countChosenClashesBy 18 = .ok (.if_icmp .ge 43, 3) := by decide +kernel
theorem dX3_countChosenClashesBy_21 : decode cX3_countChosenClashesBy 21 = .ok (.aload_n 0, 1) := by decide +kernel
theorem dX3_countChosenClashesBy_22 : decode cX3_countChosenClashesBy 22 = .ok (.iload_n 3, 1) := by decide +kernel
theorem dX3_countChosenClashesBy_23 : decode cX3_countChosenClashesBy 23 = .ok (.iload 4, 2) := by decide +kernel
theorem dX3_countChosenClashesBy_25 : decode cX3_countChosenClashesBy 25 = .ok (.invokevirtual 95, 3) := by decide +kernel
theorem dX3_countChosenClashesBy_28 : decode cX3_countChosenClashesBy 28 = .ok (.ifCond .eq 27, 3) := by decide +kernel
theorem dX3_countChosenClashesBy_31 : decode cX3_countChosenClashesBy 31 = .ok (.aload_n 0, 1) := by decide +kernel
theorem dX3_countChosenClashesBy_32 : decode cX3_countChosenClashesBy 32 = .ok (.aload_n 0, 1) := by decide +kernel
theorem dX3_countChosenClashesBy_33 : decode cX3_countChosenClashesBy 33 = .ok (.getfield 22, 3) := by decide +kernel
theorem dX3_countChosenClashesBy_36 : decode cX3_countChosenClashesBy 36 = .ok (.iload_n 3, 1) := by decide +kernel
theorem dX3_countChosenClashesBy_37 : decode cX3_countChosenClashesBy 37 = .ok (.iaload, 1) := by decide +kernel
theorem dX3_countChosenClashesBy_38 : decode cX3_countChosenClashesBy 38 = .ok (.aload_n 0, 1) := by decide +kernel
theorem dX3_countChosenClashesBy_39 : decode cX3_countChosenClashesBy 39 = .ok (.getfield 22, 3) := by decide +kernel
theorem dX3_countChosenClashesBy_42 : decode cX3_countChosenClashesBy 42 = .ok (.iload 4, 2) := by decide +kernel
theorem dX3_countChosenClashesBy_44 : decode cX3_countChosenClashesBy 44 = .ok (.iaload, 1) := by decide +kernel
theorem dX3_countChosenClashesBy_45 : decode cX3_countChosenClashesBy 45 = .ok (.iload_n 1, 1) := by decide +kernel
theorem dX3_countChosenClashesBy_46 : decode cX3_countChosenClashesBy 46 = .ok (.invokevirtual 85, 3) := by decide +kernel
theorem dX3_countChosenClashesBy_49 : decode cX3_countChosenClashesBy 49 = .ok (.ifCond .eq 6, 3) := by decide +kernel
theorem dX3_countChosenClashesBy_52 : decode cX3_countChosenClashesBy 52 = .ok (.iinc 2 1, 3) := by decide +kernel
theorem dX3_countChosenClashesBy_55 : decode cX3_countChosenClashesBy 55 = .ok (.iinc 4 1, 3) := by decide +kernel
theorem dX3_countChosenClashesBy_58 : decode cX3_countChosenClashesBy 58 = .ok (.goto (-43), 3) := by decide +kernel
theorem dX3_countChosenClashesBy_61 : decode cX3_countChosenClashesBy 61 = .ok (.iinc 3 1, 3) := by decide +kernel
theorem dX3_countChosenClashesBy_64 : decode cX3_countChosenClashesBy 64 = .ok (.goto (-60), 3) := by decide +kernel
theorem dX3_countChosenClashesBy_67 : decode cX3_countChosenClashesBy 67 = .ok (.iload_n 2, 1) := by decide +kernel
theorem dX3_countChosenClashesBy_68 : decode cX3_countChosenClashesBy 68 = .ok (.ireturn, 1) := by decide +kernel
theorem dX4_init_0 : decode cX4_init 0 = .ok (.aload_n 0, 1) := by decide +kernel
theorem dX4_init_1 : decode cX4_init 1 = .ok (.invokespecial 1, 3) := by decide +kernel
theorem dX4_init_4 : decode cX4_init 4 = .ok (.aload_n 0, 1) := by decide +kernel
theorem dX4_init_5 : decode cX4_init 5 = .ok (.new 7, 3) := by decide +kernel
theorem dX4_init_8 : decode cX4_init 8 = .ok (.dup, 1) := by decide +kernel
theorem dX4_init_9 : decode cX4_init 9 = .ok (.invokespecial 9, 3) := by decide +kernel
theorem dX4_init_12 : decode cX4_init 12 = .ok (.putfield 10, 3) := by decide +kernel
theorem dX4_init_15 : decode cX4_init 15 = .ok (.aload_n 0, 1) := by decide +kernel
theorem dX4_init_16 : decode cX4_init 16 = .ok (.new 7, 3) := by decide +kernel
theorem dX4_init_19 : decode cX4_init 19 = .ok (.dup, 1) := by decide +kernel
theorem dX4_init_20 : decode cX4_init 20 = .ok (.invokespecial 9, 3) := by decide +kernel
theorem dX4_init_23 : decode cX4_init 23 = .ok (.putfield 16, 3) := by decide +kernel
theorem dX4_init_26 : decode cX4_init 26 = .ok (.aload_n 0, 1) := by decide +kernel
theorem dX4_init_27 : decode cX4_init 27 = .ok (.iconst 0, 1) := by decide +kernel
theorem dX4_init_28 : decode cX4_init 28 = .ok (.putfield 19, 3) := by decide +kernel
theorem dX4_init_31 : decode cX4_init 31 = .ok (.aload_n 0, 1) := by decide +kernel
theorem dX4_init_32 : decode cX4_init 32 = .ok (.new 23, 3) := by decide +kernel
theorem dX4_init_35 : decode cX4_init 35 = .ok (.dup, 1) := by decide +kernel
theorem dX4_init_36 : decode cX4_init 36 = .ok (.invokespecial 25, 3) := by decide +kernel
theorem dX4_init_39 : decode cX4_init 39 = .ok (.putfield 26, 3) := by decide +kernel
theorem dX4_init_42 : decode cX4_init 42 = .ok (.aload_n 0, 1) := by decide +kernel
theorem dX4_init_43 : decode cX4_init 43 = .ok (.new 30, 3) := by decide +kernel
theorem dX4_init_46 : decode cX4_init 46 = .ok (.dup, 1) := by decide +kernel
theorem dX4_init_47 : decode cX4_init 47 = .ok (.invokespecial 32, 3) := by decide +kernel
theorem dX4_init_50 : decode cX4_init 50 = .ok (.putfield 33, 3) := by decide +kernel
theorem dX4_init_53 : decode cX4_init 53 = .ok (.aload_n 0, 1) := by decide +kernel
theorem dX4_init_54 : decode cX4_init 54 = .ok (.new 37, 3) := by decide +kernel
theorem dX4_init_57 : decode cX4_init 57 = .ok (.dup, 1) := by decide +kernel
theorem dX4_init_58 : decode cX4_init 58 = .ok (.invokespecial 39, 3) := by decide +kernel
theorem dX4_init_61 : decode cX4_init 61 = .ok (.putfield 40, 3) := by decide +kernel
theorem dX4_init_64 : decode cX4_init 64 = .ok (.return_, 1) := by decide +kernel
theorem dX4_scene_0 : decode cX4_scene 0 = .ok (.iload_n 1, 1) := by decide +kernel
theorem dX4_scene_1 : decode cX4_scene 1 = .ok (.iload_n 2, 1) := by decide +kernel
theorem dX4_scene_2 : decode cX4_scene 2 = .ok (.invokestatic 44, 3) := by decide +kernel
theorem dX4_scene_5 : decode cX4_scene 5 = .ok (.ifCond .ne 5, 3) := by decide +kernel
theorem dX4_scene_8 : decode cX4_scene 8 = .ok (.iconst (-1), 1) := by decide +kernel
theorem dX4_scene_9 : decode cX4_scene 9 = .ok (.ireturn, 1) := by decide +kernel
theorem dX4_scene_10 : decode cX4_scene 10 = .ok (.aload_n 0, 1) := by decide +kernel
theorem dX4_scene_11 : decode cX4_scene 11 = .ok (.getfield 10, 3) := by decide +kernel
theorem dX4_scene_14 : decode cX4_scene 14 = .ok (.getfield 48, 3) := by decide +kernel
theorem dX4_scene_17 : decode cX4_scene 17 = .ok (.bipush 6, 2) := by decide +kernel
theorem dX4_scene_19 : decode cX4_scene 19 = .ok (.if_icmp .lt 6, 3) := by decide +kernel
theorem dX4_scene_22 : decode cX4_scene 22 = .ok (.bipush (-2), 2) := by decide +kernel
theorem dX4_scene_24 : decode cX4_scene 24 = .ok (.ireturn, 1) := by decide +kernel
theorem dX4_scene_25 : decode cX4_scene 25 = .ok (.aload_n 0, 1) := by decide +kernel
theorem dX4_scene_26 : decode cX4_scene 26 = .ok (.getfield 10, 3) := by decide +kernel
theorem dX4_scene_29 : decode cX4_scene 29 = .ok (.iload_n 1, 1) := by decide +kernel
theorem dX4_scene_30 : decode cX4_scene 30 = .ok (.iload_n 2, 1) := by decide +kernel
theorem dX4_scene_31 : decode cX4_scene 31 = .ok (.invokevirtual 52, 3) := by decide +kernel
theorem dX4_scene_34 : decode cX4_scene 34 = .ok (.ireturn, 1) := by decide +kernel
theorem dX4_shift_0 : decode cX4_shift 0 = .ok (.aload_n 0, 1) := by decide +kernel
theorem dX4_shift_1 : decode cX4_shift 1 = .ok (.getfield 10, 3) := by decide +kernel
theorem dX4_shift_4 : decode cX4_shift 4 = .ok (.iload_n 1, 1) := by decide +kernel
theorem dX4_shift_5 : decode cX4_shift 5 = .ok (.invokevirtual 56, 3) := by decide +kernel
theorem dX4_shift_8 : decode cX4_shift 8 = .ok (.ifCond .eq 11, 3) := by decide +kernel
theorem dX4_shift_11 : decode cX4_shift 11 = .ok (.iload_n 2, 1) := by decide +kernel
theorem dX4_shift_12 : decode cX4_shift 12 = .ok (.iload_n 3, 1) := by decide +kernel
theorem dX4_shift_13 : decode cX4_shift 13 = .ok (.invokestatic 44, 3) := by decide +kernel
theorem dX4_shift_16 : decode cX4_shift 16 = .ok (.ifCond .ne 5, 3) := by decide +kernel
theorem dX4_shift_19 : decode cX4_shift 19 = .ok (.iconst (-1), 1) := by decide +kernel
theorem dX4_shift_20 : decode cX4_shift 20 = .ok (.ireturn, 1) := by decide +kernel
theorem dX4_shift_21 : decode cX4_shift 21 = .ok (.aload_n 0, 1) := by decide +kernel
theorem dX4_shift_22 : decode cX4_shift 22 = .ok (.getfield 10, 3) := by decide +kernel
theorem dX4_shift_25 : decode cX4_shift 25 = .ok (.getfield 60, 3) := by decide +kernel
theorem dX4_shift_28 : decode cX4_shift 28 = .ok (.iload_n 1, 1) := by decide +kernel
theorem dX4_shift_29 : decode cX4_shift 29 = .ok (.iload_n 2, 1) := by decide +kernel
theorem dX4_shift_30 : decode cX4_shift 30 = .ok (.iastore, 1) := by decide +kernel
theorem dX4_shift_31 : decode cX4_shift 31 = .ok (.aload_n 0, 1) := by decide +kernel
theorem dX4_shift_32 : decode cX4_shift 32 = .ok (.getfield 10, 3) := by decide +kernel
theorem dX4_shift_35 : decode cX4_shift 35 = .ok (.getfield 64, 3) := by decide +kernel
theorem dX4_shift_38 : decode cX4_shift 38 = .ok (.iload_n 1, 1) := by decide +kernel
theorem dX4_shift_39 : decode cX4_shift 39 = .ok (.iload_n 3, 1) := by decide +kernel
theorem dX4_shift_40 : decode cX4_shift 40 = .ok (.iastore, 1) := by decide +kernel
theorem dX4_shift_41 : decode cX4_shift 41 = .ok (.iconst 1, 1) := by decide +kernel
theorem dX4_shift_42 : decode cX4_shift 42 = .ok (.ireturn, 1) := by decide +kernel
theorem dX4_thing_0 : decode cX4_thing 0 = .ok (.iload_n 1, 1) := by decide +kernel
theorem dX4_thing_1 : decode cX4_thing 1 = .ok (.iload_n 2, 1) := by decide +kernel
theorem dX4_thing_2 : decode cX4_thing 2 = .ok (.invokestatic 67, 3) := by decide +kernel
theorem dX4_thing_5 : decode cX4_thing 5 = .ok (.ifCond .eq 13, 3) := by decide +kernel
theorem dX4_thing_8 : decode cX4_thing 8 = .ok (.iload_n 3, 1) := by decide +kernel
theorem dX4_thing_9 : decode cX4_thing 9 = .ok (.iconst 1, 1) := by decide +kernel
theorem dX4_thing_10 : decode cX4_thing 10 = .ok (.bipush 9, 2) := by decide +kernel
theorem dX4_thing_12 : decode cX4_thing 12 = .ok (.invokestatic 70, 3) := by decide +kernel
theorem dX4_thing_15 : decode cX4_thing 15 = .ok (.ifCond .ne 5, 3) := by decide +kernel
theorem dX4_thing_18 : decode cX4_thing 18 = .ok (.iconst (-1), 1) := by decide +kernel
theorem dX4_thing_19 : decode cX4_thing 19 = .ok (.ireturn, 1) := by decide +kernel
theorem dX4_thing_20 : decode cX4_thing 20 = .ok (.aload_n 0, 1) := by decide +kernel
theorem dX4_thing_21 : decode cX4_thing 21 = .ok (.getfield 10, 3) := by decide +kernel
theorem dX4_thing_24 : decode cX4_thing 24 = .ok (.getfield 74, 3) := by decide +kernel
theorem dX4_thing_27 : decode cX4_thing 27 = .ok (.bipush 6, 2) := by decide +kernel
theorem dX4_thing_29 : decode cX4_thing 29 = .ok (.if_icmp .lt 6, 3) := by decide +kernel
theorem dX4_thing_32 : decode cX4_thing 32 = .ok (.bipush (-2), 2) := by decide +kernel
theorem dX4_thing_34 : decode cX4_thing 34 = .ok (.ireturn, 1) := by decide +kernel
theorem dX4_thing_35 : decode cX4_thing 35 = .ok (.aload_n 0, 1) := by decide +kernel
theorem dX4_thing_36 : decode cX4_thing 36 = .ok (.getfield 10, 3) := by decide +kernel
theorem dX4_thing_39 : decode cX4_thing 39 = .ok (.iload_n 1, 1) := by decide +kernel
theorem dX4_thing_40 : decode cX4_thing 40 = .ok (.iload_n 2, 1) := by decide +kernel
theorem dX4_thing_41 : decode cX4_thing 41 = .ok (.iload_n 3, 1) := by decide +kernel
theorem dX4_thing_42 : decode cX4_thing 42 = .ok (.invokevirtual 77, 3) := by decide +kernel
theorem dX4_thing_45 : decode cX4_thing 45 = .ok (.ireturn, 1) := by decide +kernel
theorem dX4_loud_0 : decode cX4_loud 0 = .ok (.aload_n 0, 1) := by decide +kernel
theorem dX4_loud_1 : decode cX4_loud 1 = .ok (.getfield 10, 3) := by decide +kernel
theorem dX4_loud_4 : decode cX4_loud 4 = .ok (.iload_n 1, 1) := by decide +kernel
theorem dX4_loud_5 : decode cX4_loud 5 = .ok (.invokevirtual 81, 3) := by decide +kernel
theorem dX4_loud_8 : decode cX4_loud 8 = .ok (.ifCond .eq 13, 3) := by decide +kernel
theorem dX4_loud_11 : decode cX4_loud 11 = .ok (.iload_n 2, 1) := by decide +kernel
theorem dX4_loud_12 : decode cX4_loud 12 = .ok (.iconst 1, 1) := by decide +kernel
theorem dX4_loud_13 : decode cX4_loud 13 = .ok (.bipush 9, 2) := by decide +kernel
theorem dX4_loud_15 : decode cX4_loud 15 = .ok (.invokestatic 70, 3) := by decide +kernel
theorem dX4_loud_18 : decode cX4_loud 18 = .ok (.ifCond .ne 5, 3) := by decide +kernel
theorem dX4_loud_21 : decode cX4_loud 21 = .ok (.iconst (-1), 1) := by decide +kernel
theorem dX4_loud_22 : decode cX4_loud 22 = .ok (.ireturn, 1) := by decide +kernel
theorem dX4_loud_23 : decode cX4_loud 23 = .ok (.aload_n 0, 1) := by decide +kernel
theorem dX4_loud_24 : decode cX4_loud 24 = .ok (.getfield 10, 3) := by decide +kernel
theorem dX4_loud_27 : decode cX4_loud 27 = .ok (.getfield 84, 3) := by decide +kernel
theorem dX4_loud_30 : decode cX4_loud 30 = .ok (.iload_n 1, 1) := by decide +kernel
theorem dX4_loud_31 : decode cX4_loud 31 = .ok (.iaload, 1) := by decide +kernel
theorem dX4_loud_32 : decode cX4_loud 32 = .ok (.istore_n 3, 1) := by decide +kernel
theorem dX4_loud_33 : decode cX4_loud 33 = .ok (.aload_n 0, 1) := by decide +kernel
theorem dX4_loud_34 : decode cX4_loud 34 = .ok (.getfield 10, 3) := by decide +kernel
theorem dX4_loud_37 : decode cX4_loud 37 = .ok (.getfield 84, 3) := by decide +kernel
theorem dX4_loud_40 : decode cX4_loud 40 = .ok (.iload_n 1, 1) := by decide +kernel
theorem dX4_loud_41 : decode cX4_loud 41 = .ok (.iload_n 2, 1) := by decide +kernel
theorem dX4_loud_42 : decode cX4_loud 42 = .ok (.iastore, 1) := by decide +kernel
theorem dX4_loud_43 : decode cX4_loud 43 = .ok (.iload_n 3, 1) := by decide +kernel
theorem dX4_loud_44 : decode cX4_loud 44 = .ok (.ireturn, 1) := by decide +kernel
theorem dX4_take_0 : decode cX4_take 0 = .ok (.aload_n 0, 1) := by decide +kernel
theorem dX4_take_1 : decode cX4_take 1 = .ok (.getfield 10, 3) := by decide +kernel
theorem dX4_take_4 : decode cX4_take 4 = .ok (.iload_n 1, 1) := by decide +kernel
theorem dX4_take_5 : decode cX4_take 5 = .ok (.invokevirtual 56, 3) := by decide +kernel
theorem dX4_take_8 : decode cX4_take 8 = .ok (.ifCond .eq 13, 3) := by decide +kernel
theorem dX4_take_11 : decode cX4_take 11 = .ok (.iload_n 2, 1) := by decide +kernel
theorem dX4_take_12 : decode cX4_take 12 = .ok (.iconst 0, 1) := by decide +kernel
theorem dX4_take_13 : decode cX4_take 13 = .ok (.bipush 20, 2) := by decide +kernel
theorem dX4_take_15 : decode cX4_take 15 = .ok (.invokestatic 70, 3) := by decide +kernel
theorem dX4_take_18 : decode cX4_take 18 = .ok (.ifCond .ne 5, 3) := by decide +kernel
theorem dX4_take_21 : decode cX4_take 21 = .ok (.iconst (-1), 1) := by decide +kernel
theorem dX4_take_22 : decode cX4_take 22 = .ok (.ireturn, 1) := by decide +kernel
theorem dX4_take_23 : decode cX4_take 23 = .ok (.aload_n 0, 1) := by decide +kernel
theorem dX4_take_24 : decode cX4_take 24 = .ok (.getfield 10, 3) := by decide +kernel
theorem dX4_take_27 : decode cX4_take 27 = .ok (.getfield 87, 3) := by decide +kernel
theorem dX4_take_30 : decode cX4_take 30 = .ok (.bipush 16, 2) := by decide +kernel
theorem dX4_take_32 : decode cX4_take 32 = .ok (.if_icmp .ge 15, 3) := by decide +kernel
theorem dX4_take_35 : decode cX4_take 35 = .ok (.aload_n 0, 1) := by decide +kernel
theorem dX4_take_36 : decode cX4_take 36 = .ok (.getfield 10, 3) := by decide +kernel
theorem dX4_take_39 : decode cX4_take 39 = .ok (.iload_n 1, 1) := by decide +kernel
theorem dX4_take_40 : decode cX4_take 40 = .ok (.invokevirtual 90, 3) := by decide +kernel
theorem dX4_take_43 : decode cX4_take 43 = .ok (.iconst 4, 1) := by decide +kernel
theorem dX4_take_44 : decode cX4_take 44 = .ok (.if_icmp .lt 6, 3) := by decide +kernel
theorem dX4_take_47 : decode cX4_take 47 = .ok (.bipush (-2), 2) := by decide +kernel
theorem dX4_take_49 : decode cX4_take 49 = .ok (.ireturn, 1) := by decide +kernel
theorem dX4_take_50 : decode cX4_take 50 = .ok (.aload_n 0, 1) := by decide +kernel
theorem dX4_take_51 : decode cX4_take 51 = .ok (.getfield 10, 3) := by decide +kernel
theorem dX4_take_54 : decode cX4_take 54 = .ok (.iload_n 1, 1) := by decide +kernel
theorem dX4_take_55 : decode cX4_take 55 = .ok (.iload_n 2, 1) := by decide +kernel
theorem dX4_take_56 : decode cX4_take 56 = .ok (.invokevirtual 94, 3) := by decide +kernel
theorem dX4_take_59 : decode cX4_take 59 = .ok (.ireturn, 1) := by decide +kernel
theorem dX4_show_0 : decode cX4_show 0 = .ok (.aload_n 0, 1) := by decide +kernel
theorem dX4_show_1 : decode cX4_show 1 = .ok (.getfield 10, 3) := by decide +kernel
theorem dX4_show_4 : decode cX4_show 4 = .ok (.iload_n 1, 1) := by decide +kernel
theorem dX4_show_5 : decode cX4_show 5 = .ok (.invokevirtual 97, 3) := by decide +kernel
theorem dX4_show_8 : decode cX4_show 8 = .ok (.ifCond .eq 24, 3) := by decide +kernel
theorem dX4_show_11 : decode cX4_show 11 = .ok (.aload_n 0, 1) := by decide +kernel
theorem dX4_show_12 : decode cX4_show 12 = .ok (.getfield 10, 3) := by decide +kernel
theorem dX4_show_15 : decode cX4_show 15 = .ok (.iload_n 2, 1) := by decide +kernel
theorem dX4_show_16 : decode cX4_show 16 = .ok (.invokevirtual 81, 3) := by decide +kernel
theorem dX4_show_19 : decode cX4_show 19 = .ok (.ifCond .eq 13, 3) := by decide +kernel
theorem dX4_show_22 : decode cX4_show 22 = .ok (.iload_n 3, 1) := by decide +kernel
theorem dX4_show_23 : decode cX4_show 23 = .ok (.iconst (-1), 1) := by decide +kernel
theorem dX4_show_24 : decode cX4_show 24 = .ok (.bipush 99, 2) := by decide +kernel
theorem dX4_show_26 : decode cX4_show 26 = .ok (.invokestatic 70, 3) := by decide +kernel
theorem dX4_show_29 : decode cX4_show 29 = .ok (.ifCond .ne 6, 3) := by decide +kernel
theorem dX4_show_32 : decode cX4_show 32 = .ok (.bipush (-5), 2) := by decide +kernel
theorem dX4_show_34 : decode cX4_show 34 = .ok (.ireturn, 1) := by decide +kernel
theorem dX4_show_35 : decode cX4_show 35 = .ok (.aload_n 0, 1) := by decide +kernel
theorem dX4_show_36 : decode cX4_show 36 = .ok (.getfield 10, 3) := by decide +kernel
theorem dX4_show_39 : decode cX4_show 39 = .ok (.iload_n 1, 1) := by decide +kernel
theorem dX4_show_40 : decode cX4_show 40 = .ok (.iload_n 2, 1) := by decide +kernel
theorem dX4_show_41 : decode cX4_show 41 = .ok (.invokevirtual 100, 3) := by decide +kernel
theorem dX4_show_44 : decode cX4_show 44 = .ok (.istore 4, 2) := by decide +kernel
theorem dX4_show_46 : decode cX4_show 46 = .ok (.aload_n 0, 1) := by decide +kernel
theorem dX4_show_47 : decode cX4_show 47 = .ok (.getfield 10, 3) := by decide +kernel
theorem dX4_show_50 : decode cX4_show 50 = .ok (.iload_n 1, 1) := by decide +kernel
theorem dX4_show_51 : decode cX4_show 51 = .ok (.iload_n 2, 1) := by decide +kernel
theorem dX4_show_52 : decode cX4_show 52 = .ok (.iload_n 3, 1) := by decide +kernel
theorem dX4_show_53 : decode cX4_show 53 = .ok (.invokevirtual 103, 3) := by decide +kernel
theorem dX4_show_56 : decode cX4_show 56 = .ok (.iload 4, 2) := by decide +kernel
theorem dX4_show_58 : decode cX4_show 58 = .ok (.ireturn, 1) := by decide +kernel
theorem dX4_like_0 : decode cX4_like 0 = .ok (.aload_n 0, 1) := by decide +kernel
theorem dX4_like_1 : decode cX4_like 1 = .ok (.getfield 10, 3) := by decide +kernel
theorem dX4_like_4 : decode cX4_like 4 = .ok (.iload_n 1, 1) := by decide +kernel
theorem dX4_like_5 : decode cX4_like 5 = .ok (.invokevirtual 97, 3) := by decide +kernel
theorem dX4_like_8 : decode cX4_like 8 = .ok (.ifCond .eq 14, 3) := by decide +kernel
theorem dX4_like_11 : decode cX4_like 11 = .ok (.aload_n 0, 1) := by decide +kernel
theorem dX4_like_12 : decode cX4_like 12 = .ok (.getfield 10, 3) := by decide +kernel
theorem dX4_like_15 : decode cX4_like 15 = .ok (.iload_n 2, 1) := by decide +kernel
theorem dX4_like_16 : decode cX4_like 16 = .ok (.invokevirtual 97, 3) := by decide +kernel
theorem dX4_like_19 : decode cX4_like 19 = .ok (.ifCond .ne 5, 3) := by decide +kernel
theorem dX4_like_22 : decode cX4_like 22 = .ok (.iconst (-1), 1) := by decide +kernel
theorem dX4_like_23 : decode cX4_like 23 = .ok (.ireturn, 1) := by decide +kernel
theorem dX4_like_24 : decode cX4_like 24 = .ok (.aload_n 0, 1) := by decide +kernel
theorem dX4_like_25 : decode cX4_like 25 = .ok (.getfield 10, 3) := by decide +kernel
theorem dX4_like_28 : decode cX4_like 28 = .ok (.iload_n 2, 1) := by decide +kernel
theorem dX4_like_29 : decode cX4_like 29 = .ok (.iload_n 1, 1) := by decide +kernel
theorem dX4_like_30 : decode cX4_like 30 = .ok (.invokevirtual 107, 3) := by decide +kernel
theorem dX4_like_33 : decode cX4_like 33 = .ok (.ireturn, 1) := by decide +kernel
theorem dX4_of_0 : decode cX4_of 0 = .ok (.aload_n 0, 1) := by decide +kernel
theorem dX4_of_1 : decode cX4_of 1 = .ok (.getfield 10, 3) := by decide +kernel
theorem dX4_of_4 : decode cX4_of 4 = .ok (.iload_n 1, 1) := by decide +kernel
theorem dX4_of_5 : decode cX4_of 5 = .ok (.invokevirtual 56, 3) := by decide +kernel
theorem dX4_of_8 : decode cX4_of 8 = .ok (.ifCond .ne 5, 3) := by decide +kernel
theorem dX4_of_11 : decode cX4_of 11 = .ok (.iconst (-1), 1) := by decide +kernel
theorem dX4_of_12 : decode cX4_of 12 = .ok (.ireturn, 1) := by decide +kernel
theorem dX4_of_13 : decode cX4_of 13 = .ok (.iload_n 2, 1) := by decide +kernel
theorem dX4_of_14 : decode cX4_of 14 = .ok (.tableswitch 72 0 3 #[30, 40, 50, 59], 30) := by decide +kernel
theorem dX4_of_44 : decode cX4_of 44 = .ok (.aload_n 0, 1) := by decide +kernel
theorem dX4_of_45 : decode cX4_of 45 = .ok (.getfield 10, 3) := by decide +kernel
theorem dX4_of_48 : decode cX4_of 48 = .ok (.getfield 60, 3) := by decide +kernel
theorem dX4_of_51 : decode cX4_of 51 = .ok (.iload_n 1, 1) := by decide +kernel
theorem dX4_of_52 : decode cX4_of 52 = .ok (.iaload, 1) := by decide +kernel
theorem dX4_of_53 : decode cX4_of 53 = .ok (.ireturn, 1) := by decide +kernel
theorem dX4_of_54 : decode cX4_of 54 = .ok (.aload_n 0, 1) := by decide +kernel
theorem dX4_of_55 : decode cX4_of 55 = .ok (.getfield 10, 3) := by decide +kernel
theorem dX4_of_58 : decode cX4_of 58 = .ok (.getfield 64, 3) := by decide +kernel
theorem dX4_of_61 : decode cX4_of 61 = .ok (.iload_n 1, 1) := by decide +kernel
theorem dX4_of_62 : decode cX4_of 62 = .ok (.iaload, 1) := by decide +kernel
theorem dX4_of_63 : decode cX4_of 63 = .ok (.ireturn, 1) := by decide +kernel
theorem dX4_of_64 : decode cX4_of 64 = .ok (.aload_n 0, 1) := by decide +kernel
theorem dX4_of_65 : decode cX4_of 65 = .ok (.getfield 10, 3) := by decide +kernel
theorem dX4_of_68 : decode cX4_of 68 = .ok (.iload_n 1, 1) := by decide +kernel
theorem dX4_of_69 : decode cX4_of 69 = .ok (.invokevirtual 90, 3) := by decide +kernel
theorem dX4_of_72 : decode cX4_of 72 = .ok (.ireturn, 1) := by decide +kernel
theorem dX4_of_73 : decode cX4_of 73 = .ok (.aload_n 0, 1) := by decide +kernel
theorem dX4_of_74 : decode cX4_of 74 = .ok (.getfield 10, 3) := by decide +kernel
theorem dX4_of_77 : decode cX4_of 77 = .ok (.getfield 110, 3) := by decide +kernel
theorem dX4_of_80 : decode cX4_of 80 = .ok (.iload_n 1, 1) := by decide +kernel
theorem dX4_of_81 : decode cX4_of 81 = .ok (.iaload, 1) := by decide +kernel
theorem dX4_of_82 : decode cX4_of 82 = .ok (.invokestatic 113, 3) := by decide +kernel
theorem dX4_of_85 : decode cX4_of 85 = .ok (.ireturn, 1) := by decide +kernel
theorem dX4_of_86 : decode cX4_of 86 = .ok (.iconst (-1), 1) := by decide +kernel
theorem dX4_of_87 : decode cX4_of 87 = .ok (.ireturn, 1) := by decide +kernel
theorem dX4_told_0 : decode cX4_told 0 = .ok (.aload_n 0, 1) := by decide +kernel
theorem dX4_told_1 : decode cX4_told 1 = .ok (.getfield 10, 3) := by decide +kernel
theorem dX4_told_4 : decode cX4_told 4 = .ok (.iload_n 1, 1) := by decide +kernel
theorem dX4_told_5 : decode cX4_told 5 = .ok (.invokevirtual 97, 3) := by decide +kernel
theorem dX4_told_8 : decode cX4_told 8 = .ok (.ifCond .ne 5, 3) := by decide +kernel
theorem dX4_told_11 : decode cX4_told 11 = .ok (.iconst (-1), 1) := by decide +kernel
theorem dX4_told_12 : decode cX4_told 12 = .ok (.ireturn, 1) := by decide +kernel
theorem dX4_told_13 : decode cX4_told 13 = .ok (.iload_n 2, 1) := by decide +kernel
theorem dX4_told_14 : decode cX4_told 14 = .ok (.tableswitch 55 0 2 #[26, 36, 46], 26) := by decide +kernel
theorem dX4_told_40 : decode cX4_told 40 = .ok (.aload_n 0, 1) := by decide +kernel
theorem dX4_told_41 : decode cX4_told 41 = .ok (.getfield 10, 3) := by decide +kernel
theorem dX4_told_44 : decode cX4_told 44 = .ok (.getfield 116, 3) := by decide +kernel
theorem dX4_told_47 : decode cX4_told 47 = .ok (.iload_n 1, 1) := by decide +kernel
theorem dX4_told_48 : decode cX4_told 48 = .ok (.iaload, 1) := by decide +kernel
theorem dX4_told_49 : decode cX4_told 49 = .ok (.ireturn, 1) := by decide +kernel
theorem dX4_told_50 : decode cX4_told 50 = .ok (.aload_n 0, 1) := by decide +kernel
theorem dX4_told_51 : decode cX4_told 51 = .ok (.getfield 10, 3) := by decide +kernel
theorem dX4_told_54 : decode cX4_told 54 = .ok (.getfield 119, 3) := by decide +kernel
theorem dX4_told_57 : decode cX4_told 57 = .ok (.iload_n 1, 1) := by decide +kernel
theorem dX4_told_58 : decode cX4_told 58 = .ok (.iaload, 1) := by decide +kernel
theorem dX4_told_59 : decode cX4_told 59 = .ok (.ireturn, 1) := by decide +kernel
theorem dX4_told_60 : decode cX4_told 60 = .ok (.aload_n 0, 1) := by decide +kernel
theorem dX4_told_61 : decode cX4_told 61 = .ok (.getfield 10, 3) := by decide +kernel
theorem dX4_told_64 : decode cX4_told 64 = .ok (.iload_n 1, 1) := by decide +kernel
theorem dX4_told_65 : decode cX4_told 65 = .ok (.invokevirtual 122, 3) := by decide +kernel
theorem dX4_told_68 : decode cX4_told 68 = .ok (.ireturn, 1) := by decide +kernel
theorem dX4_told_69 : decode cX4_told 69 = .ok (.aload_n 0, 1) := by decide +kernel
theorem dX4_told_70 : decode cX4_told 70 = .ok (.iload_n 1, 1) := by decide +kernel
theorem dX4_told_71 : decode cX4_told 71 = .ok (.iload_n 2, 1) := by decide +kernel
theorem dX4_told_72 : decode cX4_told 72 = .ok (.invokevirtual 125, 3) := by decide +kernel
theorem dX4_told_75 : decode cX4_told 75 = .ok (.ireturn, 1) := by decide +kernel
theorem dX4_thingOf_0 : decode cX4_thingOf 0 = .ok (.aload_n 0, 1) := by decide +kernel
theorem dX4_thingOf_1 : decode cX4_thingOf 1 = .ok (.getfield 10, 3) := by decide +kernel
theorem dX4_thingOf_4 : decode cX4_thingOf 4 = .ok (.iload_n 1, 1) := by decide +kernel
theorem dX4_thingOf_5 : decode cX4_thingOf 5 = .ok (.invokevirtual 81, 3) := by decide +kernel
theorem dX4_thingOf_8 : decode cX4_thingOf 8 = .ok (.ifCond .ne 5, 3) := by decide +kernel
theorem dX4_thingOf_11 : decode cX4_thingOf 11 = .ok (.iconst (-1), 1) := by decide +kernel
theorem dX4_thingOf_12 : decode cX4_thingOf 12 = .ok (.ireturn, 1) := by decide +kernel
theorem dX4_thingOf_13 : decode cX4_thingOf 13 = .ok (.iload_n 2, 1) := by decide +kernel
theorem dX4_thingOf_14 : decode cX4_thingOf 14 = .ok (.tableswitch 69 0 3 #[30, 40, 50, 60], 30) := by decide +kernel
theorem dX4_thingOf_44 : decode cX4_thingOf 44 = .ok (.aload_n 0, 1) := by decide +kernel
end
section
theorem dX4_thingOf_45 : decode cX4_thingOf 45 = .ok (.getfield 10, 3) := by decide +kernel
theorem dX4_thingOf_48 : decode cX4_thingOf 48 = .ok (.getfield 128, 3) := by decide +kernel
theorem dX4_thingOf_51 : decode cX4_thingOf 51 = .ok (.iload_n 1, 1) := by decide +kernel
theorem dX4_thingOf_52 : decode cX4_thingOf 52 = .ok (.iaload, 1) := by decide +kernel
theorem dX4_thingOf_53 : decode cX4_thingOf 53 = .ok (.ireturn, 1) := by decide +kernel
theorem dX4_thingOf_54 : decode cX4_thingOf 54 = .ok (.aload_n 0, 1) := by decide +kernel
theorem dX4_thingOf_55 : decode cX4_thingOf 55 = .ok (.getfield 10, 3) := by decide +kernel
theorem dX4_thingOf_58 : decode cX4_thingOf 58 = .ok (.getfield 131, 3) := by decide +kernel
theorem dX4_thingOf_61 : decode cX4_thingOf 61 = .ok (.iload_n 1, 1) := by decide +kernel
theorem dX4_thingOf_62 : decode cX4_thingOf 62 = .ok (.iaload, 1) := by decide +kernel
theorem dX4_thingOf_63 : decode cX4_thingOf 63 = .ok (.ireturn, 1) := by decide +kernel
theorem dX4_thingOf_64 : decode cX4_thingOf 64 = .ok (.aload_n 0, 1) := by decide +kernel
theorem dX4_thingOf_65 : decode cX4_thingOf 65 = .ok (.getfield 10, 3) := by decide +kernel
theorem dX4_thingOf_68 : decode cX4_thingOf 68 = .ok (.getfield 84, 3) := by decide +kernel
theorem dX4_thingOf_71 : decode cX4_thingOf 71 = .ok (.iload_n 1, 1) := by decide +kernel
theorem dX4_thingOf_72 : decode cX4_thingOf 72 = .ok (.iaload, 1) := by decide +kernel
theorem dX4_thingOf_73 : decode cX4_thingOf 73 = .ok (.ireturn, 1) := by decide +kernel
theorem dX4_thingOf_74 : decode cX4_thingOf 74 = .ok (.aload_n 0, 1) := by decide +kernel
theorem dX4_thingOf_75 : decode cX4_thingOf 75 = .ok (.getfield 10, 3) := by decide +kernel
theorem dX4_thingOf_78 : decode cX4_thingOf 78 = .ok (.iload_n 1, 1) := by decide +kernel
theorem dX4_thingOf_79 : decode cX4_thingOf 79 = .ok (.invokevirtual 134, 3) := by decide +kernel
theorem dX4_thingOf_82 : decode cX4_thingOf 82 = .ok (.ireturn, 1) := by decide +kernel
theorem dX4_thingOf_83 : decode cX4_thingOf 83 = .ok (.iconst (-1), 1) := by decide +kernel
theorem dX4_thingOf_84 : decode cX4_thingOf 84 = .ok (.ireturn, 1) := by decide +kernel
theorem dX4_ahead_0 : decode cX4_ahead 0 = .ok (.aload_n 0, 1) := by decide +kernel
theorem dX4_ahead_1 : decode cX4_ahead 1 = .ok (.getfield 10, 3) := by decide +kernel
theorem dX4_ahead_4 : decode cX4_ahead 4 = .ok (.iload_n 1, 1) := by decide +kernel
theorem dX4_ahead_5 : decode cX4_ahead 5 = .ok (.invokevirtual 56, 3) := by decide +kernel
theorem dX4_ahead_8 : decode cX4_ahead 8 = .ok (.ifCond .eq 14, 3) := by decide +kernel
theorem dX4_ahead_11 : decode cX4_ahead 11 = .ok (.aload_n 0, 1) := by decide +kernel
theorem dX4_ahead_12 : decode cX4_ahead 12 = .ok (.getfield 10, 3) := by decide +kernel
theorem dX4_ahead_15 : decode cX4_ahead 15 = .ok (.iload_n 2, 1) := by decide +kernel
theorem dX4_ahead_16 : decode cX4_ahead 16 = .ok (.invokevirtual 56, 3) := by decide +kernel
theorem dX4_ahead_19 : decode cX4_ahead 19 = .ok (.ifCond .ne 5, 3) := by decide +kernel
theorem dX4_ahead_22 : decode cX4_ahead 22 = .ok (.iconst (-1), 1) := by decide +kernel
theorem dX4_ahead_23 : decode cX4_ahead 23 = .ok (.ireturn, 1) := by decide +kernel
theorem dX4_ahead_24 : decode cX4_ahead 24 = .ok (.aload_n 0, 1) := by decide +kernel
theorem dX4_ahead_25 : decode cX4_ahead 25 = .ok (.getfield 10, 3) := by decide +kernel
theorem dX4_ahead_28 : decode cX4_ahead 28 = .ok (.iload_n 1, 1) := by decide +kernel
theorem dX4_ahead_29 : decode cX4_ahead 29 = .ok (.iload_n 2, 1) := by decide +kernel
theorem dX4_ahead_30 : decode cX4_ahead 30 = .ok (.invokevirtual 137, 3) := by decide +kernel
theorem dX4_ahead_33 : decode cX4_ahead 33 = .ok (.ireturn, 1) := by decide +kernel
theorem dX4_clash_0 : decode cX4_clash 0 = .ok (.aload_n 0, 1) := by decide +kernel
theorem dX4_clash_1 : decode cX4_clash 1 = .ok (.getfield 10, 3) := by decide +kernel
theorem dX4_clash_4 : decode cX4_clash 4 = .ok (.iload_n 1, 1) := by decide +kernel
theorem dX4_clash_5 : decode cX4_clash 5 = .ok (.invokevirtual 97, 3) := by decide +kernel
theorem dX4_clash_8 : decode cX4_clash 8 = .ok (.ifCond .eq 25, 3) := by decide +kernel
theorem dX4_clash_11 : decode cX4_clash 11 = .ok (.aload_n 0, 1) := by decide +kernel
theorem dX4_clash_12 : decode cX4_clash 12 = .ok (.getfield 10, 3) := by decide +kernel
theorem dX4_clash_15 : decode cX4_clash 15 = .ok (.iload_n 2, 1) := by decide +kernel
theorem dX4_clash_16 : decode cX4_clash 16 = .ok (.invokevirtual 97, 3) := by decide +kernel
theorem dX4_clash_19 : decode cX4_clash 19 = .ok (.ifCond .eq 14, 3) := by decide +kernel
theorem dX4_clash_22 : decode cX4_clash 22 = .ok (.aload_n 0, 1) := by decide +kernel
theorem dX4_clash_23 : decode cX4_clash 23 = .ok (.getfield 10, 3) := by decide +kernel
theorem dX4_clash_26 : decode cX4_clash 26 = .ok (.iload_n 3, 1) := by decide +kernel
theorem dX4_clash_27 : decode cX4_clash 27 = .ok (.invokevirtual 81, 3) := by decide +kernel
theorem dX4_clash_30 : decode cX4_clash 30 = .ok (.ifCond .ne 5, 3) := by decide +kernel
theorem dX4_clash_33 : decode cX4_clash 33 = .ok (.iconst (-1), 1) := by decide +kernel
theorem dX4_clash_34 : decode cX4_clash 34 = .ok (.ireturn, 1) := by decide +kernel
theorem dX4_clash_35 : decode cX4_clash 35 = .ok (.aload_n 0, 1) := by decide +kernel
theorem dX4_clash_36 : decode cX4_clash 36 = .ok (.getfield 10, 3) := by decide +kernel
theorem dX4_clash_39 : decode cX4_clash 39 = .ok (.iload_n 1, 1) := by decide +kernel
theorem dX4_clash_40 : decode cX4_clash 40 = .ok (.iload_n 2, 1) := by decide +kernel
theorem dX4_clash_41 : decode cX4_clash 41 = .ok (.iload_n 3, 1) := by decide +kernel
theorem dX4_clash_42 : decode cX4_clash 42 = .ok (.invokevirtual 140, 3) := by decide +kernel
theorem dX4_clash_45 : decode cX4_clash 45 = .ok (.ifCond .eq 7, 3) := by decide +kernel
theorem dX4_clash_48 : decode cX4_clash 48 = .ok (.iconst 1, 1) := by decide +kernel
theorem dX4_clash_49 : decode cX4_clash 49 = .ok (.goto 4, 3) := by decide +kernel
theorem dX4_clash_52 : decode cX4_clash 52 = .ok (.iconst 0, 1) := by decide +kernel
theorem dX4_clash_53 : decode cX4_clash 53 = .ok (.ireturn, 1) := by decide +kernel
theorem dX4_noise_0 : decode cX4_noise 0 = .ok (.aload_n 0, 1) := by decide +kernel
theorem dX4_noise_1 : decode cX4_noise 1 = .ok (.getfield 10, 3) := by decide +kernel
theorem dX4_noise_4 : decode cX4_noise 4 = .ok (.iload_n 1, 1) := by decide +kernel
theorem dX4_noise_5 : decode cX4_noise 5 = .ok (.invokevirtual 97, 3) := by decide +kernel
theorem dX4_noise_8 : decode cX4_noise 8 = .ok (.ifCond .eq 14, 3) := by decide +kernel
theorem dX4_noise_11 : decode cX4_noise 11 = .ok (.aload_n 0, 1) := by decide +kernel
theorem dX4_noise_12 : decode cX4_noise 12 = .ok (.getfield 10, 3) := by decide +kernel
theorem dX4_noise_15 : decode cX4_noise 15 = .ok (.iload_n 2, 1) := by decide +kernel
theorem dX4_noise_16 : decode cX4_noise 16 = .ok (.invokevirtual 97, 3) := by decide +kernel
theorem dX4_noise_19 : decode cX4_noise 19 = .ok (.ifCond .ne 5, 3) := by decide +kernel
theorem dX4_noise_22 : decode cX4_noise 22 = .ok (.iconst (-1), 1) := by decide +kernel
theorem dX4_noise_23 : decode cX4_noise 23 = .ok (.ireturn, 1) := by decide +kernel
theorem dX4_noise_24 : decode cX4_noise 24 = .ok (.aload_n 0, 1) := by decide +kernel
theorem dX4_noise_25 : decode cX4_noise 25 = .ok (.getfield 10, 3) := by decide +kernel
theorem dX4_noise_28 : decode cX4_noise 28 = .ok (.iload_n 1, 1) := by decide +kernel
theorem dX4_noise_29 : decode cX4_noise 29 = .ok (.iload_n 2, 1) := by decide +kernel
theorem dX4_noise_30 : decode cX4_noise 30 = .ok (.invokevirtual 143, 3) := by decide +kernel
theorem dX4_noise_33 : decode cX4_noise 33 = .ok (.ireturn, 1) := by decide +kernel
theorem dX4_cost_0 : decode cX4_cost 0 = .ok (.aload_n 0, 1) := by decide +kernel
theorem dX4_cost_1 : decode cX4_cost 1 = .ok (.getfield 26, 3) := by decide +kernel
theorem dX4_cost_4 : decode cX4_cost 4 = .ok (.aload_n 0, 1) := by decide +kernel
theorem dX4_cost_5 : decode cX4_cost 5 = .ok (.getfield 10, 3) := by decide +kernel
theorem dX4_cost_8 : decode cX4_cost 8 = .ok (.invokevirtual 146, 3) := by decide +kernel
theorem dX4_cost_11 : decode cX4_cost 11 = .ok (.aload_n 0, 1) := by decide +kernel
theorem dX4_cost_12 : decode cX4_cost 12 = .ok (.getfield 26, 3) := by decide +kernel
theorem dX4_cost_15 : decode cX4_cost 15 = .ok (.getfield 150, 3) := by decide +kernel
theorem dX4_cost_18 : decode cX4_cost 18 = .ok (.ireturn, 1) := by decide +kernel
theorem dX4_cut_0 : decode cX4_cut 0 = .ok (.aload_n 0, 1) := by decide +kernel
theorem dX4_cut_1 : decode cX4_cut 1 = .ok (.getfield 10, 3) := by decide +kernel
theorem dX4_cut_4 : decode cX4_cut 4 = .ok (.iload_n 1, 1) := by decide +kernel
theorem dX4_cut_5 : decode cX4_cut 5 = .ok (.invokevirtual 56, 3) := by decide +kernel
theorem dX4_cut_8 : decode cX4_cut 8 = .ok (.ifCond .ne 5, 3) := by decide +kernel
theorem dX4_cut_11 : decode cX4_cut 11 = .ok (.iconst (-1), 1) := by decide +kernel
theorem dX4_cut_12 : decode cX4_cut 12 = .ok (.ireturn, 1) := by decide +kernel
theorem dX4_cut_13 : decode cX4_cut 13 = .ok (.aload_n 0, 1) := by decide +kernel
theorem dX4_cut_14 : decode cX4_cut 14 = .ok (.getfield 26, 3) := by decide +kernel
theorem dX4_cut_17 : decode cX4_cut 17 = .ok (.aload_n 0, 1) := by decide +kernel
theorem dX4_cut_18 : decode cX4_cut 18 = .ok (.getfield 10, 3) := by decide +kernel
theorem dX4_cut_21 : decode cX4_cut 21 = .ok (.invokevirtual 146, 3) := by decide +kernel
theorem dX4_cut_24 : decode cX4_cut 24 = .ok (.aload_n 0, 1) := by decide +kernel
theorem dX4_cut_25 : decode cX4_cut 25 = .ok (.getfield 26, 3) := by decide +kernel
theorem dX4_cut_28 : decode cX4_cut 28 = .ok (.getfield 153, 3) := by decide +kernel
theorem dX4_cut_31 : decode cX4_cut 31 = .ok (.iload_n 1, 1) := by decide +kernel
theorem dX4_cut_32 : decode cX4_cut 32 = .ok (.iaload, 1) := by decide +kernel
theorem dX4_cut_33 : decode cX4_cut 33 = .ok (.invokestatic 113, 3) := by decide +kernel
theorem dX4_cut_36 : decode cX4_cut 36 = .ok (.ireturn, 1) := by decide +kernel
theorem dX4_choose_0 : decode cX4_choose 0 = .ok (.iload_n 2, 1) := by decide +kernel
theorem dX4_choose_1 : decode cX4_choose 1 = .ok (.iconst (-1), 1) := by decide +kernel
theorem dX4_choose_2 : decode cX4_choose 2 = .ok (.if_icmp .eq 14, 3) := by decide +kernel
theorem dX4_choose_5 : decode cX4_choose 5 = .ok (.aload_n 0, 1) := by decide +kernel
theorem dX4_choose_6 : decode cX4_choose 6 = .ok (.getfield 10, 3) := by decide +kernel
theorem dX4_choose_9 : decode cX4_choose 9 = .ok (.iload_n 2, 1) := by decide +kernel
theorem dX4_choose_10 : decode cX4_choose 10 = .ok (.invokevirtual 97, 3) := by decide +kernel
theorem dX4_choose_13 : decode cX4_choose 13 = .ok (.ifCond .eq 7, 3) := by decide +kernel
theorem dX4_choose_16 : decode cX4_choose 16 = .ok (.iconst 1, 1) := by decide +kernel
theorem dX4_choose_17 : decode cX4_choose 17 = .ok (.goto 4, 3) := by decide +kernel
theorem dX4_choose_20 : decode cX4_choose 20 = .ok (.iconst 0, 1) := by decide +kernel
theorem dX4_choose_21 : decode cX4_choose 21 = .ok (.istore_n 3, 1) := by decide +kernel
theorem dX4_choose_22 : decode cX4_choose 22 = .ok (.aload_n 0, 1) := by decide +kernel
theorem dX4_choose_23 : decode cX4_choose 23 = .ok (.getfield 10, 3) := by decide +kernel
theorem dX4_choose_26 : decode cX4_choose 26 = .ok (.iload_n 1, 1) := by decide +kernel
theorem dX4_choose_27 : decode cX4_choose 27 = .ok (.invokevirtual 56, 3) := by decide +kernel
theorem dX4_choose_30 : decode cX4_choose 30 = .ok (.ifCond .eq 7, 3) := by decide +kernel
theorem dX4_choose_33 : decode cX4_choose 33 = .ok (.iload_n 3, 1) := by decide +kernel
theorem dX4_choose_34 : decode cX4_choose 34 = .ok (.ifCond .ne 6, 3) := by decide +kernel
theorem dX4_choose_37 : decode cX4_choose 37 = .ok (.bipush (-5), 2) := by decide +kernel
theorem dX4_choose_39 : decode cX4_choose 39 = .ok (.ireturn, 1) := by decide +kernel
theorem dX4_choose_40 : decode cX4_choose 40 = .ok (.iload_n 2, 1) := by decide +kernel
theorem dX4_choose_41 : decode cX4_choose 41 = .ok (.iconst (-1), 1) := by decide +kernel
theorem dX4_choose_42 : decode cX4_choose 42 = .ok (.if_icmp .eq 19, 3) := by decide +kernel
theorem dX4_choose_45 : decode cX4_choose 45 = .ok (.aload_n 0, 1) := by decide +kernel
theorem dX4_choose_46 : decode cX4_choose 46 = .ok (.getfield 10, 3) := by decide +kernel
theorem dX4_choose_49 : decode cX4_choose 49 = .ok (.getfield 116, 3) := by decide +kernel
theorem dX4_choose_52 : decode cX4_choose 52 = .ok (.iload_n 2, 1) := by decide +kernel
theorem dX4_choose_53 : decode cX4_choose 53 = .ok (.iaload, 1) := by decide +kernel
theorem dX4_choose_54 : decode cX4_choose 54 = .ok (.iload_n 1, 1) := by decide +kernel
theorem dX4_choose_55 : decode cX4_choose 55 = .ok (.if_icmp .eq 6, 3) := by decide +kernel
theorem dX4_choose_58 : decode cX4_choose 58 = .ok (.bipush (-3), 2) := by decide +kernel
theorem dX4_choose_60 : decode cX4_choose 60 = .ok (.ireturn, 1) := by decide +kernel
theorem dX4_choose_61 : decode cX4_choose 61 = .ok (.aload_n 0, 1) := by decide +kernel
theorem dX4_choose_62 : decode cX4_choose 62 = .ok (.getfield 10, 3) := by decide +kernel
theorem dX4_choose_65 : decode cX4_choose 65 = .ok (.getfield 110, 3) := by decide +kernel
theorem dX4_choose_68 : decode cX4_choose 68 = .ok (.iload_n 1, 1) := by decide +kernel
theorem dX4_choose_69 : decode cX4_choose 69 = .ok (.iaload, 1) := by decide +kernel
theorem dX4_choose_70 : decode cX4_choose 70 = .ok (.istore 4, 2) := by decide +kernel
theorem dX4_choose_72 : decode cX4_choose 72 = .ok (.aload_n 0, 1) := by decide +kernel
theorem dX4_choose_73 : decode cX4_choose 73 = .ok (.getfield 10, 3) := by decide +kernel
theorem dX4_choose_76 : decode cX4_choose 76 = .ok (.getfield 110, 3) := by decide +kernel
theorem dX4_choose_79 : decode cX4_choose 79 = .ok (.iload_n 1, 1) := by decide +kernel
theorem dX4_choose_80 : decode cX4_choose 80 = .ok (.iload_n 2, 1) := by decide +kernel
theorem dX4_choose_81 : decode cX4_choose 81 = .ok (.iastore, 1) := by decide +kernel
theorem dX4_choose_82 : decode cX4_choose 82 = .ok (.iload 4, 2) := by decide +kernel
theorem dX4_choose_84 : decode cX4_choose 84 = .ok (.ireturn, 1) := by decide +kernel
theorem dX4_adopt_0 : decode cX4_adopt 0 = .ok (.aload_n 0, 1) := by decide +kernel
theorem dX4_adopt_1 : decode cX4_adopt 1 = .ok (.getfield 26, 3) := by decide +kernel
theorem dX4_adopt_4 : decode cX4_adopt 4 = .ok (.aload_n 0, 1) := by decide +kernel
theorem dX4_adopt_5 : decode cX4_adopt 5 = .ok (.getfield 10, 3) := by decide +kernel
theorem dX4_adopt_8 : decode cX4_adopt 8 = .ok (.invokevirtual 146, 3) := by decide +kernel
theorem dX4_adopt_11 : decode cX4_adopt 11 = .ok (.iconst 0, 1) := by decide +kernel
theorem dX4_adopt_12 : decode cX4_adopt 12 = .ok (.istore_n 1, 1) := by decide +kernel
theorem dX4_adopt_13 : decode cX4_adopt 13 = .ok (.iconst 0, 1) := by decide +kernel
theorem dX4_adopt_14 : decode cX4_adopt 14 = .ok (.istore_n 2, 1) := by decide +kernel
theorem dX4_adopt_15 : decode cX4_adopt 15 = .ok (.iload_n 2, 1) := by decide +kernel
theorem dX4_adopt_16 : decode cX4_adopt 16 = .ok (.aload_n 0, 1) := by decide +kernel
theorem dX4_adopt_17 : decode cX4_adopt 17 = .ok (.getfield 10, 3) := by decide +kernel
theorem dX4_adopt_20 : decode cX4_adopt 20 = .ok (.getfield 48, 3) := by decide +kernel
theorem dX4_adopt_23 : decode cX4_adopt 23 = .ok (.if_icmp .ge 51, 3) := by decide +kernel
theorem dX4_adopt_26 : decode cX4_adopt 26 = .ok (.aload_n 0, 1) := by decide +kernel
theorem dX4_adopt_27 : decode cX4_adopt 27 = .ok (.getfield 10, 3) := by decide +kernel
theorem dX4_adopt_30 : decode cX4_adopt 30 = .ok (.getfield 110, 3) := by decide +kernel
theorem dX4_adopt_33 : decode cX4_adopt 33 = .ok (.iload_n 2, 1) := by decide +kernel
theorem dX4_adopt_34 : decode cX4_adopt 34 = .ok (.iaload, 1) := by decide +kernel
theorem dX4_adopt_35 : decode cX4_adopt 35 = .ok (.aload_n 0, 1) := by decide +kernel
theorem dX4_adopt_36 : decode cX4_adopt 36 = .ok (.getfield 26, 3) := by decide +kernel
theorem dX4_adopt_39 : decode cX4_adopt 39 = .ok (.getfield 153, 3) := by decide +kernel
theorem dX4_adopt_42 : decode cX4_adopt 42 = .ok (.iload_n 2, 1) := by decide +kernel
theorem dX4_adopt_43 : decode cX4_adopt 43 = .ok (.iaload, 1) := by decide +kernel
theorem dX4_adopt_44 : decode cX4_adopt 44 = .ok (.if_icmp .eq 6, 3) := by decide +kernel
theorem dX4_adopt_47 : decode cX4_adopt 47 = .ok (.iinc 1 1, 3) := by decide +kernel
theorem dX4_adopt_50 : decode cX4_adopt 50 = .ok (.aload_n 0, 1) := by decide +kernel
theorem dX4_adopt_51 : decode cX4_adopt 51 = .ok (.getfield 10, 3) := by decide +kernel
theorem dX4_adopt_54 : decode cX4_adopt 54 = .ok (.getfield 110, 3) := by decide +kernel
theorem dX4_adopt_57 : decode cX4_adopt 57 = .ok (.iload_n 2, 1) := by decide +kernel
theorem dX4_adopt_58 : decode cX4_adopt 58 = .ok (.aload_n 0, 1) := by decide +kernel
theorem dX4_adopt_59 : decode cX4_adopt 59 = .ok (.getfield 26, 3) := by decide +kernel
theorem dX4_adopt_62 : decode cX4_adopt 62 = .ok (.getfield 153, 3) := by decide +kernel
theorem dX4_adopt_65 : decode cX4_adopt 65 = .ok (.iload_n 2, 1) := by decide +kernel
theorem dX4_adopt_66 : decode cX4_adopt 66 = .ok (.iaload, 1) := by decide +kernel
theorem dX4_adopt_67 : decode cX4_adopt 67 = .ok (.iastore, 1) := by decide +kernel
theorem dX4_adopt_68 : decode cX4_adopt 68 = .ok (.iinc 2 1, 3) := by decide +kernel
theorem dX4_adopt_71 : decode cX4_adopt 71 = .ok (.goto (-56), 3) := by decide +kernel
theorem dX4_adopt_74 : decode cX4_adopt 74 = .ok (.iload_n 1, 1) := by decide +kernel
theorem dX4_adopt_75 : decode cX4_adopt 75 = .ok (.ireturn, 1) := by decide +kernel
theorem dX4_chosen_0 : decode cX4_chosen 0 = .ok (.aload_n 0, 1) := by decide +kernel
theorem dX4_chosen_1 : decode cX4_chosen 1 = .ok (.getfield 10, 3) := by decide +kernel
theorem dX4_chosen_4 : decode cX4_chosen 4 = .ok (.invokevirtual 156, 3) := by decide +kernel
theorem dX4_chosen_7 : decode cX4_chosen 7 = .ok (.ireturn, 1) := by decide +kernel
theorem dX4_span_0 : decode cX4_span 0 = .ok (.aload_n 0, 1) := by decide +kernel
theorem dX4_span_1 : decode cX4_span 1 = .ok (.getfield 10, 3) := by decide +kernel
theorem dX4_span_4 : decode cX4_span 4 = .ok (.iload_n 1, 1) := by decide +kernel
theorem dX4_span_5 : decode cX4_span 5 = .ok (.invokevirtual 56, 3) := by decide +kernel
theorem dX4_span_8 : decode cX4_span 8 = .ok (.ifCond .eq 23, 3) := by decide +kernel
theorem dX4_span_11 : decode cX4_span 11 = .ok (.aload_n 0, 1) := by decide +kernel
theorem dX4_span_12 : decode cX4_span 12 = .ok (.getfield 10, 3) := by decide +kernel
theorem dX4_span_15 : decode cX4_span 15 = .ok (.iload_n 2, 1) := by decide +kernel
theorem dX4_span_16 : decode cX4_span 16 = .ok (.invokevirtual 81, 3) := by decide +kernel
theorem dX4_span_19 : decode cX4_span 19 = .ok (.ifCond .eq 12, 3) := by decide +kernel
theorem dX4_span_22 : decode cX4_span 22 = .ok (.iload_n 3, 1) := by decide +kernel
theorem dX4_span_23 : decode cX4_span 23 = .ok (.iconst 0, 1) := by decide +kernel
theorem dX4_span_24 : decode cX4_span 24 = .ok (.iconst 2, 1) := by decide +kernel
theorem dX4_span_25 : decode cX4_span 25 = .ok (.invokestatic 70, 3) := by decide +kernel
theorem dX4_span_28 : decode cX4_span 28 = .ok (.ifCond .ne 5, 3) := by decide +kernel
theorem dX4_span_31 : decode cX4_span 31 = .ok (.iconst (-1), 1) := by decide +kernel
theorem dX4_span_32 : decode cX4_span 32 = .ok (.ireturn, 1) := by decide +kernel
theorem dX4_span_33 : decode cX4_span 33 = .ok (.aload_n 0, 1) := by decide +kernel
theorem dX4_span_34 : decode cX4_span 34 = .ok (.getfield 33, 3) := by decide +kernel
theorem dX4_span_37 : decode cX4_span 37 = .ok (.aload_n 0, 1) := by decide +kernel
theorem dX4_span_38 : decode cX4_span 38 = .ok (.getfield 10, 3) := by decide +kernel
theorem dX4_span_41 : decode cX4_span 41 = .ok (.iload_n 1, 1) := by decide +kernel
theorem dX4_span_42 : decode cX4_span 42 = .ok (.iload_n 2, 1) := by decide +kernel
theorem dX4_span_43 : decode cX4_span 43 = .ok (.invokevirtual 160, 3) := by decide +kernel
theorem dX4_span_46 : decode cX4_span 46 = .ok (.aload_n 0, 1) := by decide +kernel
theorem dX4_span_47 : decode cX4_span 47 = .ok (.getfield 33, 3) := by decide +kernel
theorem dX4_span_50 : decode cX4_span 50 = .ok (.iload_n 1, 1) := by decide +kernel
theorem dX4_span_51 : decode cX4_span 51 = .ok (.invokevirtual 163, 3) := by decide +kernel
theorem dX4_span_54 : decode cX4_span 54 = .ok (.istore 4, 2) := by decide +kernel
theorem dX4_span_56 : decode cX4_span 56 = .ok (.iload_n 3, 1) := by decide +kernel
theorem dX4_span_57 : decode cX4_span 57 = .ok (.iconst 2, 1) := by decide +kernel
theorem dX4_span_58 : decode cX4_span 58 = .ok (.if_icmp .ne 6, 3) := by decide +kernel
theorem dX4_span_61 : decode cX4_span 61 = .ok (.iload 4, 2) := by decide +kernel
theorem dX4_span_63 : decode cX4_span 63 = .ok (.ireturn, 1) := by decide +kernel
theorem dX4_span_64 : decode cX4_span 64 = .ok (.iload 4, 2) := by decide +kernel
theorem dX4_span_66 : decode cX4_span 66 = .ok (.ifCond .ne 6, 3) := by decide +kernel
theorem dX4_span_69 : decode cX4_span 69 = .ok (.bipush (-4), 2) := by decide +kernel
theorem dX4_span_71 : decode cX4_span 71 = .ok (.ireturn, 1) := by decide +kernel
theorem dX4_span_72 : decode cX4_span 72 = .ok (.iload_n 3, 1) := by decide +kernel
theorem dX4_span_73 : decode cX4_span 73 = .ok (.ifCond .ne 15, 3) := by decide +kernel
theorem dX4_span_76 : decode cX4_span 76 = .ok (.aload_n 0, 1) := by decide +kernel
theorem dX4_span_77 : decode cX4_span 77 = .ok (.getfield 33, 3) := by decide +kernel
theorem dX4_span_80 : decode cX4_span 80 = .ok (.getfield 166, 3) := by decide +kernel
theorem dX4_span_83 : decode cX4_span 83 = .ok (.iload_n 1, 1) := by decide +kernel
theorem dX4_span_84 : decode cX4_span 84 = .ok (.iaload, 1) := by decide +kernel
theorem dX4_span_85 : decode cX4_span 85 = .ok (.goto 12, 3) := by decide +kernel
theorem dX4_span_88 : decode cX4_span 88 = .ok (.aload_n 0, 1) := by decide +kernel
theorem dX4_span_89 : decode cX4_span 89 = .ok (.getfield 33, 3) := by decide +kernel
theorem dX4_span_92 : decode cX4_span 92 = .ok (.getfield 169, 3) := by decide +kernel
theorem dX4_span_95 : decode cX4_span 95 = .ok (.iload_n 1, 1) := by decide +kernel
theorem dX4_span_96 : decode cX4_span 96 = .ok (.iaload, 1) := by decide +kernel
theorem dX4_span_97 : decode cX4_span 97 = .ok (.ireturn, 1) := by decide +kernel
theorem dX4_twin_0 : decode cX4_twin 0 = .ok (.aload_n 0, 1) := by decide +kernel
theorem dX4_twin_1 : decode cX4_twin 1 = .ok (.iload_n 1, 1) := by decide +kernel
theorem dX4_twin_2 : decode cX4_twin 2 = .ok (.iload_n 2, 1) := by decide +kernel
theorem dX4_twin_3 : decode cX4_twin 3 = .ok (.invokevirtual 172, 3) := by decide +kernel
theorem dX4_twin_6 : decode cX4_twin 6 = .ok (.istore 4, 2) := by decide +kernel
theorem dX4_twin_8 : decode cX4_twin 8 = .ok (.iload 4, 2) := by decide +kernel
theorem dX4_twin_10 : decode cX4_twin 10 = .ok (.iconst (-1), 1) := by decide +kernel
theorem dX4_twin_11 : decode cX4_twin 11 = .ok (.if_icmp .ne 5, 3) := by decide +kernel
theorem dX4_twin_14 : decode cX4_twin 14 = .ok (.iconst (-1), 1) := by decide +kernel
theorem dX4_twin_15 : decode cX4_twin 15 = .ok (.ireturn, 1) := by decide +kernel
theorem dX4_twin_16 : decode cX4_twin 16 = .ok (.iload_n 3, 1) := by decide +kernel
theorem dX4_twin_17 : decode cX4_twin 17 = .ok (.ifCond .lt 9, 3) := by decide +kernel
theorem dX4_twin_20 : decode cX4_twin 20 = .ok (.iload_n 3, 1) := by decide +kernel
theorem dX4_twin_21 : decode cX4_twin 21 = .ok (.iload 4, 2) := by decide +kernel
theorem dX4_twin_23 : decode cX4_twin 23 = .ok (.if_icmp .lt 6, 3) := by decide +kernel
theorem dX4_twin_26 : decode cX4_twin 26 = .ok (.bipush (-4), 2) := by decide +kernel
theorem dX4_twin_28 : decode cX4_twin 28 = .ok (.ireturn, 1) := by decide +kernel
theorem dX4_twin_29 : decode cX4_twin 29 = .ok (.aload_n 0, 1) := by decide +kernel
theorem dX4_twin_30 : decode cX4_twin 30 = .ok (.getfield 33, 3) := by decide +kernel
theorem dX4_twin_33 : decode cX4_twin 33 = .ok (.getfield 175, 3) := by decide +kernel
theorem dX4_twin_36 : decode cX4_twin 36 = .ok (.iload_n 3, 1) := by decide +kernel
theorem dX4_twin_37 : decode cX4_twin 37 = .ok (.iaload, 1) := by decide +kernel
theorem dX4_twin_38 : decode cX4_twin 38 = .ok (.ireturn, 1) := by decide +kernel
theorem dX4_doubles_0 : decode cX4_doubles 0 = .ok (.aload_n 0, 1) := by decide +kernel
theorem dX4_doubles_1 : decode cX4_doubles 1 = .ok (.iload_n 1, 1) := by decide +kernel
theorem dX4_doubles_2 : decode cX4_doubles 2 = .ok (.iload_n 2, 1) := by decide +kernel
theorem dX4_doubles_3 : decode cX4_doubles 3 = .ok (.invokevirtual 172, 3) := by decide +kernel
theorem dX4_doubles_6 : decode cX4_doubles 6 = .ok (.ireturn, 1) := by decide +kernel
theorem dX4_reshoot_0 : decode cX4_reshoot 0 = .ok (.aload_n 0, 1) := by decide +kernel
theorem dX4_reshoot_1 : decode cX4_reshoot 1 = .ok (.getfield 40, 3) := by decide +kernel
theorem dX4_reshoot_4 : decode cX4_reshoot 4 = .ok (.aload_n 0, 1) := by decide +kernel
theorem dX4_reshoot_5 : decode cX4_reshoot 5 = .ok (.getfield 10, 3) := by decide +kernel
theorem dX4_reshoot_8 : decode cX4_reshoot 8 = .ok (.invokevirtual 178, 3) := by decide +kernel
theorem dX4_reshoot_11 : decode cX4_reshoot 11 = .ok (.aload_n 0, 1) := by decide +kernel
theorem dX4_reshoot_12 : decode cX4_reshoot 12 = .ok (.getfield 40, 3) := by decide +kernel
theorem dX4_reshoot_15 : decode cX4_reshoot 15 = .ok (.aload_n 0, 1) := by decide +kernel
theorem dX4_reshoot_16 : decode cX4_reshoot 16 = .ok (.getfield 10, 3) := by decide +kernel
theorem dX4_reshoot_19 : decode cX4_reshoot 19 = .ok (.getfield 48, 3) := by decide +kernel
theorem dX4_reshoot_22 : decode cX4_reshoot 22 = .ok (.invokevirtual 179, 3) := by decide +kernel
theorem dX4_reshoot_25 : decode cX4_reshoot 25 = .ok (.ireturn, 1) := by decide +kernel
theorem dX4_clashes_0 : decode cX4_clashes 0 = .ok (.aload_n 0, 1) := by decide +kernel
theorem dX4_clashes_1 : decode cX4_clashes 1 = .ok (.getfield 10, 3) := by decide +kernel
theorem dX4_clashes_4 : decode cX4_clashes 4 = .ok (.iload_n 1, 1) := by decide +kernel
theorem dX4_clashes_5 : decode cX4_clashes 5 = .ok (.invokevirtual 81, 3) := by decide +kernel
theorem dX4_clashes_8 : decode cX4_clashes 8 = .ok (.ifCond .ne 5, 3) := by decide +kernel
theorem dX4_clashes_11 : decode cX4_clashes 11 = .ok (.iconst (-1), 1) := by decide +kernel
theorem dX4_clashes_12 : decode cX4_clashes 12 = .ok (.ireturn, 1) := by decide +kernel
theorem dX4_clashes_13 : decode cX4_clashes 13 = .ok (.aload_n 0, 1) := by decide +kernel
theorem dX4_clashes_14 : decode cX4_clashes 14 = .ok (.getfield 10, 3) := by decide +kernel
theorem dX4_clashes_17 : decode cX4_clashes 17 = .ok (.iload_n 1, 1) := by decide +kernel
theorem dX4_clashes_18 : decode cX4_clashes 18 = .ok (.invokevirtual 182, 3) := by decide +kernel
theorem dX4_clashes_21 : decode cX4_clashes 21 = .ok (.ireturn, 1) := by decide +kernel
theorem dX4_many_0 : decode cX4_many 0 = .ok (.iload_n 1, 1) := by decide +kernel
theorem dX4_many_1 : decode cX4_many 1 = .ok (.tableswitch 75 0 4 #[35, 43, 51, 59, 67], 35) := by decide +kernel
theorem dX4_many_36 : decode cX4_many 36 = .ok (.aload_n 0, 1) := by decide +kernel
theorem dX4_many_37 : decode cX4_many 37 = .ok (.getfield 10, 3) := by decide +kernel
theorem dX4_many_40 : decode cX4_many 40 = .ok (.getfield 48, 3) := by decide +kernel
theorem dX4_many_43 : decode cX4_many 43 = .ok (.ireturn, 1) := by decide +kernel
theorem dX4_many_44 : decode cX4_many 44 = .ok (.aload_n 0, 1) := by decide +kernel
theorem dX4_many_45 : decode cX4_many 45 = .ok (.getfield 10, 3) := by decide +kernel
theorem dX4_many_48 : decode cX4_many 48 = .ok (.getfield 74, 3) := by decide +kernel
theorem dX4_many_51 : decode cX4_many 51 = .ok (.ireturn, 1) := by decide +kernel
theorem dX4_many_52 : decode cX4_many 52 = .ok (.aload_n 0, 1) := by decide +kernel
theorem dX4_many_53 : decode cX4_many 53 = .ok (.getfield 10, 3) := by decide +kernel
theorem dX4_many_56 : decode cX4_many 56 = .ok (.getfield 87, 3) := by decide +kernel
theorem dX4_many_59 : decode cX4_many 59 = .ok (.ireturn, 1) := by decide +kernel
theorem dX4_many_60 : decode cX4_many 60 = .ok (.aload_n 0, 1) := by decide +kernel
theorem dX4_many_61 : decode cX4_many 61 = .ok (.getfield 10, 3) := by decide +kernel
theorem dX4_many_64 : decode cX4_many 64 = .ok (.invokevirtual 185, 3) := by decide +kernel
theorem dX4_many_67 : decode cX4_many 67 = .ok (.ireturn, 1) := by decide +kernel
theorem dX4_many_68 : decode cX4_many 68 = .ok (.aload_n 0, 1) := by decide +kernel
theorem dX4_many_69 : decode cX4_many 69 = .ok (.getfield 10, 3) := by decide +kernel
theorem dX4_many_72 : decode cX4_many 72 = .ok (.invokevirtual 188, 3) := by decide +kernel
theorem dX4_many_75 : decode cX4_many 75 = .ok (.ireturn, 1) := by decide +kernel
theorem dX4_many_76 : decode cX4_many 76 = .ok (.iconst (-1), 1) := by decide +kernel
theorem dX4_many_77 : decode cX4_many 77 = .ok (.ireturn, 1) := by decide +kernel
theorem dX4_keep_0 : decode cX4_keep 0 = .ok (.aload_n 0, 1) := by decide +kernel
theorem dX4_keep_1 : decode cX4_keep 1 = .ok (.getfield 16, 3) := by decide +kernel
theorem dX4_keep_4 : decode cX4_keep 4 = .ok (.aload_n 0, 1) := by decide +kernel
theorem dX4_keep_5 : decode cX4_keep 5 = .ok (.getfield 10, 3) := by decide +kernel
theorem dX4_keep_8 : decode cX4_keep 8 = .ok (.invokevirtual 191, 3) := by decide +kernel
theorem dX4_keep_11 : decode cX4_keep 11 = .ok (.aload_n 0, 1) := by decide +kernel
theorem dX4_keep_12 : decode cX4_keep 12 = .ok (.iconst 1, 1) := by decide +kernel
theorem dX4_keep_13 : decode cX4_keep 13 = .ok (.putfield 19, 3) := by decide +kernel
theorem dX4_keep_16 : decode cX4_keep 16 = .ok (.iconst 1, 1) := by decide +kernel
theorem dX4_keep_17 : decode cX4_keep 17 = .ok (.ireturn, 1) := by decide +kernel
theorem dX4_back_0 : decode cX4_back 0 = .ok (.aload_n 0, 1) := by decide +kernel
theorem dX4_back_1 : decode cX4_back 1 = .ok (.getfield 19, 3) := by decide +kernel
theorem dX4_back_4 : decode cX4_back 4 = .ok (.ifCond .ne 6, 3) := by decide +kernel
theorem dX4_back_7 : decode cX4_back 7 = .ok (.bipush (-4), 2) := by decide +kernel
theorem dX4_back_9 : decode cX4_back 9 = .ok (.ireturn, 1) := by decide +kernel
theorem dX4_back_10 : decode cX4_back 10 = .ok (.aload_n 0, 1) := by decide +kernel
theorem dX4_back_11 : decode cX4_back 11 = .ok (.getfield 10, 3) := by decide +kernel
theorem dX4_back_14 : decode cX4_back 14 = .ok (.aload_n 0, 1) := by decide +kernel
theorem dX4_back_15 : decode cX4_back 15 = .ok (.getfield 16, 3) := by decide +kernel
theorem dX4_back_18 : decode cX4_back 18 = .ok (.invokevirtual 191, 3) := by decide +kernel
theorem dX4_back_21 : decode cX4_back 21 = .ok (.iconst 1, 1) := by decide +kernel
theorem dX4_back_22 : decode cX4_back 22 = .ok (.ireturn, 1) := by decide +kernel
theorem dX4_isBetween_0 : decode cX4_isBetween 0 = .ok (.iload_n 0, 1) := by decide +kernel
theorem dX4_isBetween_1 : decode cX4_isBetween 1 = .ok (.iload_n 1, 1) := by decide +kernel
theorem dX4_isBetween_2 : decode cX4_isBetween 2 = .ok (.if_icmp .lt 12, 3) := by decide +kernel
theorem dX4_isBetween_5 : decode cX4_isBetween 5 = .ok (.iload_n 0, 1) := by decide +kernel
theorem dX4_isBetween_6 : decode cX4_isBetween 6 = .ok (.iload_n 2, 1) := by decide +kernel
theorem dX4_isBetween_7 : decode cX4_isBetween 7 = .ok (.if_icmp .gt 7, 3) := by decide +kernel
theorem dX4_isBetween_10 : decode cX4_isBetween 10 = .ok (.iconst 1, 1) := by decide +kernel
theorem dX4_isBetween_11 : decode cX4_isBetween 11 = .ok (.goto 4, 3) := by decide +kernel
theorem dX4_isBetween_14 : decode cX4_isBetween 14 = .ok (.iconst 0, 1) := by decide +kernel
theorem dX4_isBetween_15 : decode cX4_isBetween 15 = .ok (.ireturn, 1) := by decide +kernel
theorem dX4_isDayAndPlace_0 : decode cX4_isDayAndPlace 0 = .ok (.iload_n 0, 1) := by decide +kernel
theorem dX4_isDayAndPlace_1 : decode cX4_isDayAndPlace 1 = .ok (.iconst 0, 1) := by decide +kernel
theorem dX4_isDayAndPlace_2 : decode cX4_isDayAndPlace 2 = .ok (.bipush 99, 2) := by decide +kernel
theorem dX4_isDayAndPlace_4 : decode cX4_isDayAndPlace 4 = .ok (.invokestatic 70, 3) := by decide +kernel
theorem dX4_isDayAndPlace_7 : decode cX4_isDayAndPlace 7 = .ok (.ifCond .eq 17, 3) := by decide +kernel
theorem dX4_isDayAndPlace_10 : decode cX4_isDayAndPlace 10 = .ok (.iload_n 1, 1) := by decide +kernel
theorem dX4_isDayAndPlace_11 : decode cX4_isDayAndPlace 11 = .ok (.iconst 0, 1) := by decide +kernel
theorem dX4_isDayAndPlace_12 : decode cX4_isDayAndPlace 12 = .ok (.bipush 99, 2) := by decide +kernel
theorem dX4_isDayAndPlace_14 : decode cX4_isDayAndPlace 14 = .ok (.invokestatic 70, 3) := by decide +kernel
theorem dX4_isDayAndPlace_17 : decode cX4_isDayAndPlace 17 = .ok (.ifCond .eq 7, 3) := by decide +kernel
theorem dX4_isDayAndPlace_20 : decode cX4_isDayAndPlace 20 = .ok (.iconst 1, 1) := by decide +kernel
theorem dX4_isDayAndPlace_21 : decode cX4_isDayAndPlace 21 = .ok (.goto 4, 3) := by decide +kernel
theorem dX4_isDayAndPlace_24 : decode cX4_isDayAndPlace 24 = .ok (.iconst 0, 1) := by decide +kernel
theorem dX4_isDayAndPlace_25 : decode cX4_isDayAndPlace 25 = .ok (.ireturn, 1) := by decide +kernel
theorem dX4_isLawWithRate_0 : decode cX4_isLawWithRate 0 = .ok (.iload_n 0, 1) := by decide +kernel
theorem dX4_isLawWithRate_1 : decode cX4_isLawWithRate 1 = .ok (.iconst 3, 1) := by decide +kernel
theorem dX4_isLawWithRate_2 : decode cX4_isLawWithRate 2 = .ok (.if_icmp .ne 11, 3) := by decide +kernel
theorem dX4_isLawWithRate_5 : decode cX4_isLawWithRate 5 = .ok (.iload_n 1, 1) := by decide +kernel
theorem dX4_isLawWithRate_6 : decode cX4_isLawWithRate 6 = .ok (.iconst 1, 1) := by decide +kernel
theorem dX4_isLawWithRate_7 : decode cX4_isLawWithRate 7 = .ok (.bipush 9, 2) := by decide +kernel
theorem dX4_isLawWithRate_9 : decode cX4_isLawWithRate 9 = .ok (.invokestatic 70, 3) := by decide +kernel
theorem dX4_isLawWithRate_12 : decode cX4_isLawWithRate 12 = .ok (.ireturn, 1) := by decide +kernel
theorem dX4_isLawWithRate_13 : decode cX4_isLawWithRate 13 = .ok (.iload_n 0, 1) := by decide +kernel
theorem dX4_isLawWithRate_14 : decode cX4_isLawWithRate 14 = .ok (.iconst 0, 1) := by decide +kernel
theorem dX4_isLawWithRate_15 : decode cX4_isLawWithRate 15 = .ok (.iconst 2, 1) := by decide +kernel
theorem dX4_isLawWithRate_16 : decode cX4_isLawWithRate 16 = .ok (.invokestatic 70, 3) := by decide +kernel
theorem dX4_isLawWithRate_19 : decode cX4_isLawWithRate 19 = .ok (.ifCond .eq 11, 3) := by decide +kernel
theorem dX4_isLawWithRate_22 : decode cX4_isLawWithRate 22 = .ok (.iload_n 1, 1) := by decide +kernel
theorem dX4_isLawWithRate_23 : decode cX4_isLawWithRate 23 = .ok (.ifCond .ne 7, 3) := by decide +kernel
theorem dX4_isLawWithRate_26 : decode cX4_isLawWithRate 26 = .ok (.iconst 1, 1) := by decide +kernel
theorem dX4_isLawWithRate_27 : decode cX4_isLawWithRate 27 = .ok (.goto 4, 3) := by decide +kernel
theorem dX4_isLawWithRate_30 : decode cX4_isLawWithRate 30 = .ok (.iconst 0, 1) := by decide +kernel
theorem dX4_isLawWithRate_31 : decode cX4_isLawWithRate 31 = .ok (.ireturn, 1) := by decide +kernel
theorem dX4_isIn_0 : decode cX4_isIn 0 = .ok (.iload_n 0, 1) := by decide +kernel
theorem dX4_isIn_1 : decode cX4_isIn 1 = .ok (.iload_n 1, 1) := by decide +kernel
theorem dX4_isIn_2 : decode cX4_isIn 2 = .ok (.ishr, 1) := by decide +kernel
theorem dX4_isIn_3 : decode cX4_isIn 3 = .ok (.iconst 1, 1) := by decide +kernel
theorem dX4_isIn_4 : decode cX4_isIn 4 = .ok (.iand, 1) := by decide +kernel
theorem dX4_isIn_5 : decode cX4_isIn 5 = .ok (.ifCond .eq 7, 3) := by decide +kernel
theorem dX4_isIn_8 : decode cX4_isIn 8 = .ok (.iconst 1, 1) := by decide +kernel
theorem dX4_isIn_9 : decode cX4_isIn 9 = .ok (.goto 4, 3) := by decide +kernel
theorem dX4_isIn_12 : decode cX4_isIn 12 = .ok (.iconst 0, 1) := by decide +kernel
theorem dX4_isIn_13 : decode cX4_isIn 13 = .ok (.ireturn, 1) := by decide +kernel
theorem dX4_orNone_0 : decode cX4_orNone 0 = .ok (.iload_n 0, 1) := by decide +kernel
theorem dX4_orNone_1 : decode cX4_orNone 1 = .ok (.iconst (-1), 1) := by decide +kernel
theorem dX4_orNone_2 : decode cX4_orNone 2 = .ok (.if_icmp .ne 8, 3) := by decide +kernel
theorem dX4_orNone_5 : decode cX4_orNone 5 = .ok (.bipush (-4), 2) := by decide +kernel
theorem dX4_orNone_7 : decode cX4_orNone 7 = .ok (.goto 4, 3) := by decide +kernel
theorem dX4_orNone_10 : decode cX4_orNone 10 = .ok (.iload_n 0, 1) := by decide +kernel
theorem dX4_orNone_11 : decode cX4_orNone 11 = .ok (.ireturn, 1) := by decide +kernel
theorem dX4_measureAsked_0 : decode cX4_measureAsked 0 = .ok (.iload_n 2, 1) := by decide +kernel
theorem dX4_measureAsked_1 : decode cX4_measureAsked 1 = .ok (.bipush 10, 2) := by decide +kernel
theorem dX4_measureAsked_3 : decode cX4_measureAsked 3 = .ok (.if_icmp .ge 5, 3) := by decide +kernel
theorem dX4_measureAsked_6 : decode cX4_measureAsked 6 = .ok (.iconst (-1), 1) := by decide +kernel
theorem dX4_measureAsked_7 : decode cX4_measureAsked 7 = .ok (.ireturn, 1) := by decide +kernel
theorem dX4_measureAsked_8 : decode cX4_measureAsked 8 = .ok (.iload_n 2, 1) := by decide +kernel
theorem dX4_measureAsked_9 : decode cX4_measureAsked 9 = .ok (.bipush 10, 2) := by decide +kernel
theorem dX4_measureAsked_11 : decode cX4_measureAsked 11 = .ok (.isub, 1) := by decide +kernel
theorem dX4_measureAsked_12 : decode cX4_measureAsked 12 = .ok (.istore_n 3, 1) := by decide +kernel
theorem dX4_measureAsked_13 : decode cX4_measureAsked 13 = .ok (.aload_n 0, 1) := by decide +kernel
theorem dX4_measureAsked_14 : decode cX4_measureAsked 14 = .ok (.getfield 10, 3) := by decide +kernel
theorem dX4_measureAsked_17 : decode cX4_measureAsked 17 = .ok (.iload_n 3, 1) := by decide +kernel
theorem dX4_measureAsked_18 : decode cX4_measureAsked 18 = .ok (.invokevirtual 81, 3) := by decide +kernel
theorem dX4_measureAsked_21 : decode cX4_measureAsked 21 = .ok (.ifCond .eq 18, 3) := by decide +kernel
theorem dX4_measureAsked_24 : decode cX4_measureAsked 24 = .ok (.aload_n 0, 1) := by decide +kernel
theorem dX4_measureAsked_25 : decode cX4_measureAsked 25 = .ok (.getfield 10, 3) := by decide +kernel
theorem dX4_measureAsked_28 : decode cX4_measureAsked 28 = .ok (.iload_n 1, 1) := by decide +kernel
theorem dX4_measureAsked_29 : decode cX4_measureAsked 29 = .ok (.iload_n 3, 1) := by decide +kernel
theorem dX4_measureAsked_30 : decode cX4_measureAsked 30 = .ok (.invokevirtual 100, 3) := by decide +kernel
theorem dX4_measureAsked_33 : decode cX4_measureAsked 33 = .ok (.invokestatic 113, 3) := by decide +kernel
theorem dX4_measureAsked_36 : decode cX4_measureAsked 36 = .ok (.goto 4, 3) := by decide +kernel
theorem dX4_measureAsked_39 : decode cX4_measureAsked 39 = .ok (.iconst (-1), 1) := by decide +kernel
theorem dX4_measureAsked_40 : decode cX4_measureAsked 40 = .ok (.ireturn, 1) := by decide +kernel
theorem dX4_doublesOrRefusal_0 : decode cX4_doublesOrRefusal 0 = .ok (.aload_n 0, 1) := by decide +kernel
theorem dX4_doublesOrRefusal_1 : decode cX4_doublesOrRefusal 1 = .ok (.getfield 10, 3) := by decide +kernel
theorem dX4_doublesOrRefusal_4 : decode cX4_doublesOrRefusal 4 = .ok (.iload_n 1, 1) := by decide +kernel
theorem dX4_doublesOrRefusal_5 : decode cX4_doublesOrRefusal 5 = .ok (.invokevirtual 81, 3) := by decide +kernel
theorem dX4_doublesOrRefusal_8 : decode cX4_doublesOrRefusal 8 = .ok (.ifCond .eq 14, 3) := by decide +kernel
theorem dX4_doublesOrRefusal_11 : decode cX4_doublesOrRefusal 11 = .ok (.aload_n 0, 1) := by decide +kernel
theorem dX4_doublesOrRefusal_12 : decode cX4_doublesOrRefusal 12 = .ok (.getfield 10, 3) := by decide +kernel
theorem dX4_doublesOrRefusal_15 : decode cX4_doublesOrRefusal 15 = .ok (.iload_n 2, 1) := by decide +kernel
theorem dX4_doublesOrRefusal_16 : decode cX4_doublesOrRefusal 16 = .ok (.invokevirtual 194, 3) := by decide +kernel
theorem dX4_doublesOrRefusal_19 : decode cX4_doublesOrRefusal 19 = .ok (.ifCond .ne 5, 3) := by decide +kernel
theorem dX4_doublesOrRefusal_22 : decode cX4_doublesOrRefusal 22 = .ok (.iconst (-1), 1) := by decide +kernel
theorem dX4_doublesOrRefusal_23 : decode cX4_doublesOrRefusal 23 = .ok (.ireturn, 1) := by decide +kernel
theorem dX4_doublesOrRefusal_24 : decode cX4_doublesOrRefusal 24 = .ok (.aload_n 0, 1) := by decide +kernel
theorem dX4_doublesOrRefusal_25 : decode cX4_doublesOrRefusal 25 = .ok (.getfield 33, 3) := by decide +kernel
theorem dX4_doublesOrRefusal_28 : decode cX4_doublesOrRefusal 28 = .ok (.aload_n 0, 1) := by decide +kernel
theorem dX4_doublesOrRefusal_29 : decode cX4_doublesOrRefusal 29 = .ok (.getfield 10, 3) := by decide +kernel
theorem dX4_doublesOrRefusal_32 : decode cX4_doublesOrRefusal 32 = .ok (.iload_n 1, 1) := by decide +kernel
theorem dX4_doublesOrRefusal_33 : decode cX4_doublesOrRefusal 33 = .ok (.iload_n 2, 1) := by decide +kernel
theorem dX4_doublesOrRefusal_34 : decode cX4_doublesOrRefusal 34 = .ok (.invokevirtual 197, 3) := by decide +kernel
theorem dX4_doublesOrRefusal_37 : decode cX4_doublesOrRefusal 37 = .ok (.ireturn, 1) := by decide +kernel
theorem dX5_init_0 : decode cX5_init 0 = .ok (.aload_n 0, 1) := by decide +kernel
theorem dX5_init_1 : decode cX5_init 1 = .ok (.invokespecial 1, 3) := by decide +kernel
theorem dX5_init_4 : decode cX5_init 4 = .ok (.aload_n 0, 1) := by decide +kernel
theorem dX5_init_5 : decode cX5_init 5 = .ok (.bipush 6, 2) := by decide +kernel
theorem dX5_init_7 : decode cX5_init 7 = .ok (.newarray .int, 2) := by decide +kernel
theorem dX5_init_9 : decode cX5_init 9 = .ok (.putfield 7, 3) := by decide +kernel
theorem dX5_init_12 : decode cX5_init 12 = .ok (.aload_n 0, 1) := by decide +kernel
theorem dX5_init_13 : decode cX5_init 13 = .ok (.bipush 6, 2) := by decide +kernel
theorem dX5_init_15 : decode cX5_init 15 = .ok (.newarray .int, 2) := by decide +kernel
theorem dX5_init_17 : decode cX5_init 17 = .ok (.putfield 13, 3) := by decide +kernel
theorem dX5_init_20 : decode cX5_init 20 = .ok (.aload_n 0, 1) := by decide +kernel
theorem dX5_init_21 : decode cX5_init 21 = .ok (.bipush 6, 2) := by decide +kernel
theorem dX5_init_23 : decode cX5_init 23 = .ok (.newarray .int, 2) := by decide +kernel
theorem dX5_init_25 : decode cX5_init 25 = .ok (.putfield 16, 3) := by decide +kernel
theorem dX5_init_28 : decode cX5_init 28 = .ok (.aload_n 0, 1) := by decide +kernel
theorem dX5_init_29 : decode cX5_init 29 = .ok (.bipush 6, 2) := by decide +kernel
theorem dX5_init_31 : decode cX5_init 31 = .ok (.newarray .int, 2) := by decide +kernel
theorem dX5_init_33 : decode cX5_init 33 = .ok (.putfield 19, 3) := by decide +kernel
theorem dX5_init_36 : decode cX5_init 36 = .ok (.aload_n 0, 1) := by decide +kernel
theorem dX5_init_37 : decode cX5_init 37 = .ok (.bipush 6, 2) := by decide +kernel
theorem dX5_init_39 : decode cX5_init 39 = .ok (.newarray .int, 2) := by decide +kernel
theorem dX5_init_41 : decode cX5_init 41 = .ok (.putfield 22, 3) := by decide +kernel
theorem dX5_init_44 : decode cX5_init 44 = .ok (.aload_n 0, 1) := by decide +kernel
theorem dX5_init_45 : decode cX5_init 45 = .ok (.bipush 6, 2) := by decide +kernel
theorem dX5_init_47 : decode cX5_init 47 = .ok (.newarray .int, 2) := by decide +kernel
theorem dX5_init_49 : decode cX5_init 49 = .ok (.putfield 25, 3) := by decide +kernel
theorem dX5_init_52 : decode cX5_init 52 = .ok (.aload_n 0, 1) := by decide +kernel
theorem dX5_init_53 : decode cX5_init 53 = .ok (.bipush 16, 2) := by decide +kernel
theorem dX5_init_55 : decode cX5_init 55 = .ok (.newarray .int, 2) := by decide +kernel
theorem dX5_init_57 : decode cX5_init 57 = .ok (.putfield 28, 3) := by decide +kernel
theorem dX5_init_60 : decode cX5_init 60 = .ok (.aload_n 0, 1) := by decide +kernel
theorem dX5_init_61 : decode cX5_init 61 = .ok (.bipush 16, 2) := by decide +kernel
theorem dX5_init_63 : decode cX5_init 63 = .ok (.newarray .int, 2) := by decide +kernel
theorem dX5_init_65 : decode cX5_init 65 = .ok (.putfield 31, 3) := by decide +kernel
theorem dX5_init_68 : decode cX5_init 68 = .ok (.aload_n 0, 1) := by decide +kernel
theorem dX5_init_69 : decode cX5_init 69 = .ok (.bipush 96, 2) := by decide +kernel
theorem dX5_init_71 : decode cX5_init 71 = .ok (.newarray .int, 2) := by decide +kernel
theorem dX5_init_73 : decode cX5_init 73 = .ok (.putfield 34, 3) := by decide +kernel
theorem dX5_init_76 : decode cX5_init 76 = .ok (.aload_n 0, 1) := by decide +kernel
theorem dX5_init_77 : decode cX5_init 77 = .ok (.iconst 3, 1) := by decide +kernel
theorem dX5_init_78 : decode cX5_init 78 = .ok (.newarray .int, 2) := by decide +kernel
theorem dX5_init_80 : decode cX5_init 80 = .ok (.putfield 37, 3) := by decide +kernel
theorem dX5_init_83 : decode cX5_init 83 = .ok (.aload_n 0, 1) := by decide +kernel
theorem dX5_init_84 : decode cX5_init 84 = .ok (.bipush 36, 2) := by decide +kernel
theorem dX5_init_86 : decode cX5_init 86 = .ok (.newarray .int, 2) := by decide +kernel
theorem dX5_init_88 : decode cX5_init 88 = .ok (.putfield 40, 3) := by decide +kernel
theorem dX5_init_91 : decode cX5_init 91 = .ok (.aload_n 0, 1) := by decide +kernel
theorem dX5_init_92 : decode cX5_init 92 = .ok (.sipush 128, 3) := by decide +kernel
theorem dX5_init_95 : decode cX5_init 95 = .ok (.newarray .int, 2) := by decide +kernel
theorem dX5_init_97 : decode cX5_init 97 = .ok (.putfield 43, 3) := by decide +kernel
theorem dX5_init_100 : decode cX5_init 100 = .ok (.aload_n 0, 1) := by decide +kernel
theorem dX5_init_101 : decode cX5_init 101 = .ok (.bipush 6, 2) := by decide +kernel
theorem dX5_init_103 : decode cX5_init 103 = .ok (.newarray .int, 2) := by decide +kernel
theorem dX5_init_105 : decode cX5_init 105 = .ok (.putfield 46, 3) := by decide +kernel
theorem dX5_init_108 : decode cX5_init 108 = .ok (.aload_n 0, 1) := by decide +kernel
theorem dX5_init_109 : decode cX5_init 109 = .ok (.bipush 6, 2) := by decide +kernel
theorem dX5_init_111 : decode cX5_init 111 = .ok (.newarray .int, 2) := by decide +kernel
theorem dX5_init_113 : decode cX5_init 113 = .ok (.putfield 49, 3) := by decide +kernel
theorem dX5_init_116 : decode cX5_init 116 = .ok (.aload_n 0, 1) := by decide +kernel
theorem dX5_init_117 : decode cX5_init 117 = .ok (.sipush 256, 3) := by decide +kernel
theorem dX5_init_120 : decode cX5_init 120 = .ok (.newarray .int, 2) := by decide +kernel
theorem dX5_init_122 : decode cX5_init 122 = .ok (.putfield 52, 3) := by decide +kernel
theorem dX5_init_125 : decode cX5_init 125 = .ok (.aload_n 0, 1) := by decide +kernel
theorem dX5_init_126 : decode cX5_init 126 = .ok (.bipush 6, 2) := by decide +kernel
theorem dX5_init_128 : decode cX5_init 128 = .ok (.newarray .int, 2) := by decide +kernel
theorem dX5_init_130 : decode cX5_init 130 = .ok (.putfield 55, 3) := by decide +kernel
theorem dX5_init_133 : decode cX5_init 133 = .ok (.aload_n 0, 1) := by decide +kernel
theorem dX5_init_134 : decode cX5_init 134 = .ok (.bipush 6, 2) := by decide +kernel
theorem dX5_init_136 : decode cX5_init 136 = .ok (.newarray .int, 2) := by decide +kernel
theorem dX5_init_138 : decode cX5_init 138 = .ok (.putfield 58, 3) := by decide +kernel
theorem dX5_init_141 : decode cX5_init 141 = .ok (.aload_n 0, 1) := by decide +kernel
theorem dX5_init_142 : decode cX5_init 142 = .ok (.bipush 6, 2) := by decide +kernel
theorem dX5_init_144 : decode cX5_init 144 = .ok (.newarray .int, 2) := by decide +kernel
theorem dX5_init_146 : decode cX5_init 146 = .ok (.putfield 61, 3) := by decide +kernel
theorem dX5_init_149 : decode cX5_init 149 = .ok (.return_, 1) := by decide +kernel
theorem dX5_in_0 : decode cX5_in 0 = .ok (.iload_n 0, 1) := by decide +kernel
theorem dX5_in_1 : decode cX5_in 1 = .ok (.iload_n 1, 1) := by decide +kernel
theorem dX5_in_2 : decode cX5_in 2 = .ok (.if_icmp .lt 12, 3) := by decide +kernel
theorem dX5_in_5 : decode cX5_in 5 = .ok (.iload_n 0, 1) := by decide +kernel
theorem dX5_in_6 : decode cX5_in 6 = .ok (.iload_n 2, 1) := by decide +kernel
theorem dX5_in_7 : decode cX5_in 7 = .ok (.if_icmp .gt 7, 3) := by decide +kernel
theorem dX5_in_10 : decode cX5_in 10 = .ok (.iconst 1, 1) := by decide +kernel
theorem dX5_in_11 : decode cX5_in 11 = .ok (.goto 4, 3) := by decide +kernel
theorem dX5_in_14 : decode cX5_in 14 = .ok (.iconst 0, 1) := by decide +kernel
theorem dX5_in_15 : decode cX5_in 15 = .ok (.ireturn, 1) := by decide +kernel
theorem dX5_isScene_0 : decode cX5_isScene 0 = .ok (.iload_n 1, 1) := by decide +kernel
theorem dX5_isScene_1 : decode cX5_isScene 1 = .ok (.iconst 0, 1) := by decide +kernel
theorem dX5_isScene_2 : decode cX5_isScene 2 = .ok (.aload_n 0, 1) := by decide +kernel
theorem dX5_isScene_3 : decode cX5_isScene 3 = .ok (.getfield 64, 3) := by decide +kernel
theorem dX5_isScene_6 : decode cX5_isScene 6 = .ok (.iconst 1, 1) := by decide +kernel
theorem dX5_isScene_7 : decode cX5_isScene 7 = .ok (.isub, 1) := by decide +kernel
theorem dX5_isScene_8 : decode cX5_isScene 8 = .ok (.invokestatic 68, 3) := by decide +kernel
theorem dX5_isScene_11 : decode cX5_isScene 11 = .ok (.ireturn, 1) := by decide +kernel
theorem dX5_isThing_0 : decode cX5_isThing 0 = .ok (.iload_n 1, 1) := by decide +kernel
theorem dX5_isThing_1 : decode cX5_isThing 1 = .ok (.iconst 0, 1) := by decide +kernel
theorem dX5_isThing_2 : decode cX5_isThing 2 = .ok (.aload_n 0, 1) := by decide +kernel
theorem dX5_isThing_3 : decode cX5_isThing 3 = .ok (.getfield 72, 3) := by decide +kernel
theorem dX5_isThing_6 : decode cX5_isThing 6 = .ok (.iconst 1, 1) := by decide +kernel
theorem dX5_isThing_7 : decode cX5_isThing 7 = .ok (.isub, 1) := by decide +kernel
theorem dX5_isThing_8 : decode cX5_isThing 8 = .ok (.invokestatic 68, 3) := by decide +kernel
theorem dX5_isThing_11 : decode cX5_isThing 11 = .ok (.ireturn, 1) := by decide +kernel
theorem dX5_isTake_0 : decode cX5_isTake 0 = .ok (.iload_n 1, 1) := by decide +kernel
theorem dX5_isTake_1 : decode cX5_isTake 1 = .ok (.iconst 0, 1) := by decide +kernel
theorem dX5_isTake_2 : decode cX5_isTake 2 = .ok (.aload_n 0, 1) := by decide +kernel
theorem dX5_isTake_3 : decode cX5_isTake 3 = .ok (.getfield 75, 3) := by decide +kernel
theorem dX5_isTake_6 : decode cX5_isTake 6 = .ok (.iconst 1, 1) := by decide +kernel
theorem dX5_isTake_7 : decode cX5_isTake 7 = .ok (.isub, 1) := by decide +kernel
theorem dX5_isTake_8 : decode cX5_isTake 8 = .ok (.invokestatic 68, 3) := by decide +kernel
theorem dX5_isTake_11 : decode cX5_isTake 11 = .ok (.ireturn, 1) := by decide +kernel
theorem dX5_scene_0 : decode cX5_scene 0 = .ok (.iload_n 1, 1) := by decide +kernel
theorem dX5_scene_1 : decode cX5_scene 1 = .ok (.iconst 0, 1) := by decide +kernel
theorem dX5_scene_2 : decode cX5_scene 2 = .ok (.bipush 99, 2) := by decide +kernel
theorem dX5_scene_4 : decode cX5_scene 4 = .ok (.invokestatic 68, 3) := by decide +kernel
theorem dX5_scene_7 : decode cX5_scene 7 = .ok (.ifCond .eq 13, 3) := by decide +kernel
theorem dX5_scene_10 : decode cX5_scene 10 = .ok (.iload_n 2, 1) := by decide +kernel
theorem dX5_scene_11 : decode cX5_scene 11 = .ok (.iconst 0, 1) := by decide +kernel
theorem dX5_scene_12 : decode cX5_scene 12 = .ok (.bipush 99, 2) := by decide +kernel
theorem dX5_scene_14 : decode cX5_scene 14 = .ok (.invokestatic 68, 3) := by decide +kernel
theorem dX5_scene_17 : decode cX5_scene 17 = .ok (.ifCond .ne 5, 3) := by decide +kernel
theorem dX5_scene_20 : decode cX5_scene 20 = .ok (.iconst (-1), 1) := by decide +kernel
theorem dX5_scene_21 : decode cX5_scene 21 = .ok (.ireturn, 1) := by decide +kernel
theorem dX5_scene_22 : decode cX5_scene 22 = .ok (.aload_n 0, 1) := by decide +kernel
theorem dX5_scene_23 : decode cX5_scene 23 = .ok (.getfield 64, 3) := by decide +kernel
theorem dX5_scene_26 : decode cX5_scene 26 = .ok (.bipush 6, 2) := by decide +kernel
theorem dX5_scene_28 : decode cX5_scene 28 = .ok (.if_icmp .ne 6, 3) := by decide +kernel
theorem dX5_scene_31 : decode cX5_scene 31 = .ok (.bipush (-2), 2) := by decide +kernel
theorem dX5_scene_33 : decode cX5_scene 33 = .ok (.ireturn, 1) := by decide +kernel
theorem dX5_scene_34 : decode cX5_scene 34 = .ok (.aload_n 0, 1) := by decide +kernel
theorem dX5_scene_35 : decode cX5_scene 35 = .ok (.getfield 7, 3) := by decide +kernel
theorem dX5_scene_38 : decode cX5_scene 38 = .ok (.aload_n 0, 1) := by decide +kernel
theorem dX5_scene_39 : decode cX5_scene 39 = .ok (.getfield 64, 3) := by decide +kernel
theorem dX5_scene_42 : decode cX5_scene 42 = .ok (.iload_n 1, 1) := by decide +kernel
theorem dX5_scene_43 : decode cX5_scene 43 = .ok (.iastore, 1) := by decide +kernel
theorem dX5_scene_44 : decode cX5_scene 44 = .ok (.aload_n 0, 1) := by decide +kernel
theorem dX5_scene_45 : decode cX5_scene 45 = .ok (.getfield 13, 3) := by decide +kernel
theorem dX5_scene_48 : decode cX5_scene 48 = .ok (.aload_n 0, 1) := by decide +kernel
theorem dX5_scene_49 : decode cX5_scene 49 = .ok (.getfield 64, 3) := by decide +kernel
theorem dX5_scene_52 : decode cX5_scene 52 = .ok (.iload_n 2, 1) := by decide +kernel
theorem dX5_scene_53 : decode cX5_scene 53 = .ok (.iastore, 1) := by decide +kernel
theorem dX5_scene_54 : decode cX5_scene 54 = .ok (.aload_n 0, 1) := by decide +kernel
theorem dX5_scene_55 : decode cX5_scene 55 = .ok (.getfield 16, 3) := by decide +kernel
theorem dX5_scene_58 : decode cX5_scene 58 = .ok (.aload_n 0, 1) := by decide +kernel
theorem dX5_scene_59 : decode cX5_scene 59 = .ok (.getfield 64, 3) := by decide +kernel
theorem dX5_scene_62 : decode cX5_scene 62 = .ok (.iconst (-1), 1) := by decide +kernel
theorem dX5_scene_63 : decode cX5_scene 63 = .ok (.iastore, 1) := by decide +kernel
theorem dX5_scene_64 : decode cX5_scene 64 = .ok (.aload_n 0, 1) := by decide +kernel
theorem dX5_scene_65 : decode cX5_scene 65 = .ok (.dup, 1) := by decide +kernel
theorem dX5_scene_66 : decode cX5_scene 66 = .ok (.getfield 64, 3) := by decide +kernel
theorem dX5_scene_69 : decode cX5_scene 69 = .ok (.iconst 1, 1) := by decide +kernel
theorem dX5_scene_70 : decode cX5_scene 70 = .ok (.iadd, 1) := by decide +kernel
theorem dX5_scene_71 : decode cX5_scene 71 = .ok (.putfield 64, 3) := by decide +kernel
theorem dX5_scene_74 : decode cX5_scene 74 = .ok (.aload_n 0, 1) := by decide +kernel
theorem dX5_scene_75 : decode cX5_scene 75 = .ok (.getfield 64, 3) := by decide +kernel
theorem dX5_scene_78 : decode cX5_scene 78 = .ok (.iconst 1, 1) := by decide +kernel
theorem dX5_scene_79 : decode cX5_scene 79 = .ok (.isub, 1) := by decide +kernel
theorem dX5_scene_80 : decode cX5_scene 80 = .ok (.ireturn, 1) := by decide +kernel
theorem dX5_shift_0 : decode cX5_shift 0 = .ok (.aload_n 0, 1) := by decide +kernel
theorem dX5_shift_1 : decode cX5_shift 1 = .ok (.iload_n 1, 1) := by decide +kernel
theorem dX5_shift_2 : decode cX5_shift 2 = .ok (.invokevirtual 78, 3) := by decide +kernel
theorem dX5_shift_5 : decode cX5_shift 5 = .ok (.ifCond .eq 23, 3) := by decide +kernel
theorem dX5_shift_8 : decode cX5_shift 8 = .ok (.iload_n 2, 1) := by decide +kernel
theorem dX5_shift_9 : decode cX5_shift 9 = .ok (.iconst 0, 1) := by decide +kernel
theorem dX5_shift_10 : decode cX5_shift 10 = .ok (.bipush 99, 2) := by decide +kernel
theorem dX5_shift_12 : decode cX5_shift 12 = .ok (.invokestatic 68, 3) := by decide +kernel
theorem dX5_shift_15 : decode cX5_shift 15 = .ok (.ifCond .eq 13, 3) := by decide +kernel
theorem dX5_shift_18 : decode cX5_shift 18 = .ok (.iload_n 3, 1) := by decide +kernel
theorem dX5_shift_19 : decode cX5_shift 19 = .ok (.iconst 0, 1) := by decide +kernel
theorem dX5_shift_20 : decode cX5_shift 20 = .ok (.bipush 99, 2) := by decide +kernel
theorem dX5_shift_22 : decode cX5_shift 22 = .ok (.invokestatic 68, 3) := by decide +kernel
theorem dX5_shift_25 : decode cX5_shift 25 = .ok (.ifCond .ne 5, 3) := by decide +kernel
theorem dX5_shift_28 : decode cX5_shift 28 = .ok (.iconst (-1), 1) := by decide +kernel
theorem dX5_shift_29 : decode cX5_shift 29 = .ok (.ireturn, 1) := by decide +kernel
theorem dX5_shift_30 : decode cX5_shift 30 = .ok (.aload_n 0, 1) := by decide +kernel
theorem dX5_shift_31 : decode cX5_shift 31 = .ok (.getfield 7, 3) := by decide +kernel
theorem dX5_shift_34 : decode cX5_shift 34 = .ok (.iload_n 1, 1) := by decide +kernel
theorem dX5_shift_35 : decode cX5_shift 35 = .ok (.iload_n 2, 1) := by decide +kernel
theorem dX5_shift_36 : decode cX5_shift 36 = .ok (.iastore, 1) := by decide +kernel
theorem dX5_shift_37 : decode cX5_shift 37 = .ok (.aload_n 0, 1) := by decide +kernel
theorem dX5_shift_38 : decode cX5_shift 38 = .ok (.getfield 13, 3) := by decide +kernel
theorem dX5_shift_41 : decode cX5_shift 41 = .ok (.iload_n 1, 1) := by decide +kernel
theorem dX5_shift_42 : decode cX5_shift 42 = .ok (.iload_n 3, 1) := by decide +kernel
theorem dX5_shift_43 : decode cX5_shift 43 = .ok (.iastore, 1) := by decide +kernel
theorem dX5_shift_44 : decode cX5_shift 44 = .ok (.iconst 1, 1) := by decide +kernel
theorem dX5_shift_45 : decode cX5_shift 45 = .ok (.ireturn, 1) := by decide +kernel
theorem dX5_thing_0 : decode cX5_thing 0 = .ok (.iload_n 1, 1) := by decide +kernel
theorem dX5_thing_1 : decode cX5_thing 1 = .ok (.iconst 0, 1) := by decide +kernel
theorem dX5_thing_2 : decode cX5_thing 2 = .ok (.iconst 3, 1) := by decide +kernel
theorem dX5_thing_3 : decode cX5_thing 3 = .ok (.invokestatic 68, 3) := by decide +kernel
theorem dX5_thing_6 : decode cX5_thing 6 = .ok (.ifCond .eq 41, 3) := by decide +kernel
theorem dX5_thing_9 : decode cX5_thing 9 = .ok (.iload_n 2, 1) := by decide +kernel
theorem dX5_thing_10 : decode cX5_thing 10 = .ok (.iload_n 1, 1) := by decide +kernel
theorem dX5_thing_11 : decode cX5_thing 11 = .ok (.iconst 3, 1) := by decide +kernel
theorem dX5_thing_12 : decode cX5_thing 12 = .ok (.if_icmp .ne 7, 3) := by decide +kernel
theorem dX5_thing_15 : decode cX5_thing 15 = .ok (.iconst 1, 1) := by decide +kernel
theorem dX5_thing_16 : decode cX5_thing 16 = .ok (.goto 4, 3) := by decide +kernel
theorem dX5_thing_19 : decode cX5_thing 19 = .ok (.iconst 0, 1) := by decide +kernel
theorem dX5_thing_20 : decode cX5_thing 20 = .ok (.iload_n 1, 1) := by decide +kernel
theorem dX5_thing_21 : decode cX5_thing 21 = .ok (.iconst 3, 1) := by decide +kernel
theorem dX5_thing_22 : decode cX5_thing 22 = .ok (.if_icmp .ne 8, 3) := by decide +kernel
theorem dX5_thing_25 : decode cX5_thing 25 = .ok (.bipush 9, 2) := by decide +kernel
theorem dX5_thing_27 : decode cX5_thing 27 = .ok (.goto 4, 3) := by decide +kernel
theorem dX5_thing_30 : decode cX5_thing 30 = .ok (.iconst 0, 1) := by decide +kernel
theorem dX5_thing_31 : decode cX5_thing 31 = .ok (.invokestatic 68, 3) := by decide +kernel
theorem dX5_thing_34 : decode cX5_thing 34 = .ok (.ifCond .eq 13, 3) := by decide +kernel
theorem dX5_thing_37 : decode cX5_thing 37 = .ok (.iload_n 3, 1) := by decide +kernel
theorem dX5_thing_38 : decode cX5_thing 38 = .ok (.iconst 1, 1) := by decide +kernel
theorem dX5_thing_39 : decode cX5_thing 39 = .ok (.bipush 9, 2) := by decide +kernel
theorem dX5_thing_41 : decode cX5_thing 41 = .ok (.invokestatic 68, 3) := by decide +kernel
theorem dX5_thing_44 : decode cX5_thing 44 = .ok (.ifCond .ne 5, 3) := by decide +kernel
theorem dX5_thing_47 : decode cX5_thing 47 = .ok (.iconst (-1), 1) := by decide +kernel
theorem dX5_thing_48 : decode cX5_thing 48 = .ok (.ireturn, 1) := by decide +kernel
theorem dX5_thing_49 : decode cX5_thing 49 = .ok (.aload_n 0, 1) := by decide +kernel
theorem dX5_thing_50 : decode cX5_thing 50 = .ok (.getfield 72, 3) := by decide +kernel
theorem dX5_thing_53 : decode cX5_thing 53 = .ok (.bipush 6, 2) := by decide +kernel
theorem dX5_thing_55 : decode cX5_thing 55 = .ok (.if_icmp .ne 6, 3) := by decide +kernel
theorem dX5_thing_58 : decode cX5_thing 58 = .ok (.bipush (-2), 2) := by decide +kernel
theorem dX5_thing_60 : decode cX5_thing 60 = .ok (.ireturn, 1) := by decide +kernel
theorem dX5_thing_61 : decode cX5_thing 61 = .ok (.aload_n 0, 1) := by decide +kernel
theorem dX5_thing_62 : decode cX5_thing 62 = .ok (.getfield 19, 3) := by decide +kernel
theorem dX5_thing_65 : decode cX5_thing 65 = .ok (.aload_n 0, 1) := by decide +kernel
theorem dX5_thing_66 : decode cX5_thing 66 = .ok (.getfield 72, 3) := by decide +kernel
theorem dX5_thing_69 : decode cX5_thing 69 = .ok (.iload_n 1, 1) := by decide +kernel
theorem dX5_thing_70 : decode cX5_thing 70 = .ok (.iastore, 1) := by decide +kernel
theorem dX5_thing_71 : decode cX5_thing 71 = .ok (.aload_n 0, 1) := by decide +kernel
theorem dX5_thing_72 : decode cX5_thing 72 = .ok (.getfield 22, 3) := by decide +kernel
theorem dX5_thing_75 : decode cX5_thing 75 = .ok (.aload_n 0, 1) := by decide +kernel
theorem dX5_thing_76 : decode cX5_thing 76 = .ok (.getfield 72, 3) := by decide +kernel
theorem dX5_thing_79 : decode cX5_thing 79 = .ok (.iload_n 2, 1) := by decide +kernel
theorem dX5_thing_80 : decode cX5_thing 80 = .ok (.iastore, 1) := by decide +kernel
theorem dX5_thing_81 : decode cX5_thing 81 = .ok (.aload_n 0, 1) := by decide +kernel
theorem dX5_thing_82 : decode cX5_thing 82 = .ok (.getfield 25, 3) := by decide +kernel
theorem dX5_thing_85 : decode cX5_thing 85 = .ok (.aload_n 0, 1) := by decide +kernel
theorem dX5_thing_86 : decode cX5_thing 86 = .ok (.getfield 72, 3) := by decide +kernel
theorem dX5_thing_89 : decode cX5_thing 89 = .ok (.iload_n 3, 1) := by decide +kernel
theorem dX5_thing_90 : decode cX5_thing 90 = .ok (.iastore, 1) := by decide +kernel
theorem dX5_thing_91 : decode cX5_thing 91 = .ok (.aload_n 0, 1) := by decide +kernel
theorem dX5_thing_92 : decode cX5_thing 92 = .ok (.dup, 1) := by decide +kernel
theorem dX5_thing_93 : decode cX5_thing 93 = .ok (.getfield 72, 3) := by decide +kernel
theorem dX5_thing_96 : decode cX5_thing 96 = .ok (.iconst 1, 1) := by decide +kernel
theorem dX5_thing_97 : decode cX5_thing 97 = .ok (.iadd, 1) := by decide +kernel
theorem dX5_thing_98 : decode cX5_thing 98 = .ok (.putfield 72, 3) := by decide +kernel
theorem dX5_thing_101 : decode cX5_thing 101 = .ok (.aload_n 0, 1) := by decide +kernel
theorem dX5_thing_102 : decode cX5_thing 102 = .ok (.getfield 72, 3) := by decide +kernel
theorem dX5_thing_105 : decode cX5_thing 105 = .ok (.iconst 1, 1) := by decide +kernel
theorem dX5_thing_106 : decode cX5_thing 106 = .ok (.isub, 1) := by decide +kernel
theorem dX5_thing_107 : decode cX5_thing 107 = .ok (.ireturn, 1) := by decide +kernel
theorem dX5_loud_0 : decode cX5_loud 0 = .ok (.aload_n 0, 1) := by decide +kernel
theorem dX5_loud_1 : decode cX5_loud 1 = .ok (.iload_n 1, 1) := by decide +kernel
theorem dX5_loud_2 : decode cX5_loud 2 = .ok (.invokevirtual 82, 3) := by decide +kernel
theorem dX5_loud_5 : decode cX5_loud 5 = .ok (.ifCond .eq 13, 3) := by decide +kernel
theorem dX5_loud_8 : decode cX5_loud 8 = .ok (.iload_n 2, 1) := by decide +kernel
theorem dX5_loud_9 : decode cX5_loud 9 = .ok (.iconst 1, 1) := by decide +kernel
theorem dX5_loud_10 : decode cX5_loud 10 = .ok (.bipush 9, 2) := by decide +kernel
theorem dX5_loud_12 : decode cX5_loud 12 = .ok (.invokestatic 68, 3) := by decide +kernel
theorem dX5_loud_15 : decode cX5_loud 15 = .ok (.ifCond .ne 5, 3) := by decide +kernel
theorem dX5_loud_18 : decode cX5_loud 18 = .ok (.iconst (-1), 1) := by decide +kernel
theorem dX5_loud_19 : decode cX5_loud 19 = .ok (.ireturn, 1) := by decide +kernel
theorem dX5_loud_20 : decode cX5_loud 20 = .ok (.aload_n 0, 1) := by decide +kernel
theorem dX5_loud_21 : decode cX5_loud 21 = .ok (.getfield 25, 3) := by decide +kernel
theorem dX5_loud_24 : decode cX5_loud 24 = .ok (.iload_n 1, 1) := by decide +kernel
theorem dX5_loud_25 : decode cX5_loud 25 = .ok (.iaload, 1) := by decide +kernel
theorem dX5_loud_26 : decode cX5_loud 26 = .ok (.istore_n 3, 1) := by decide +kernel
theorem dX5_loud_27 : decode cX5_loud 27 = .ok (.aload_n 0, 1) := by decide +kernel
theorem dX5_loud_28 : decode cX5_loud 28 = .ok (.getfield 25, 3) := by decide +kernel
theorem dX5_loud_31 : decode cX5_loud 31 = .ok (.iload_n 1, 1) := by decide +kernel
theorem dX5_loud_32 : decode cX5_loud 32 = .ok (.iload_n 2, 1) := by decide +kernel
theorem dX5_loud_33 : decode cX5_loud 33 = .ok (.iastore, 1) := by decide +kernel
theorem dX5_loud_34 : decode cX5_loud 34 = .ok (.iload_n 3, 1) := by decide +kernel
theorem dX5_loud_35 : decode cX5_loud 35 = .ok (.ireturn, 1) := by decide +kernel
theorem dX5_takesOf_0 : decode cX5_takesOf 0 = .ok (.iconst 0, 1) := by decide +kernel
theorem dX5_takesOf_1 : decode cX5_takesOf 1 = .ok (.istore_n 2, 1) := by decide +kernel
theorem dX5_takesOf_2 : decode cX5_takesOf 2 = .ok (.iconst 0, 1) := by decide +kernel
theorem dX5_takesOf_3 : decode cX5_takesOf 3 = .ok (.istore_n 3, 1) := by decide +kernel
theorem dX5_takesOf_4 : decode cX5_takesOf 4 = .ok (.iload_n 3, 1) := by decide +kernel
theorem dX5_takesOf_5 : decode cX5_takesOf 5 = .ok (.aload_n 0, 1) := by decide +kernel
theorem dX5_takesOf_6 : decode cX5_takesOf 6 = .ok (.getfield 75, 3) := by decide +kernel
theorem dX5_takesOf_9 : decode cX5_takesOf 9 = .ok (.if_icmp .ge 27, 3) := by decide +kernel
theorem dX5_takesOf_12 : decode cX5_takesOf 12 = .ok (.iload_n 2, 1) := by decide +kernel
theorem dX5_takesOf_13 : decode cX5_takesOf 13 = .ok (.aload_n 0, 1) := by decide +kernel
theorem dX5_takesOf_14 : decode cX5_takesOf 14 = .ok (.getfield 28, 3) := by decide +kernel
theorem dX5_takesOf_17 : decode cX5_takesOf 17 = .ok (.iload_n 3, 1) := by decide +kernel
theorem dX5_takesOf_18 : decode cX5_takesOf 18 = .ok (.iaload, 1) := by decide +kernel
theorem dX5_takesOf_19 : decode cX5_takesOf 19 = .ok (.iload_n 1, 1) := by decide +kernel
theorem dX5_takesOf_20 : decode cX5_takesOf 20 = .ok (.if_icmp .ne 7, 3) := by decide +kernel
theorem dX5_takesOf_23 : decode cX5_takesOf 23 = .ok (.iconst 1, 1) := by decide +kernel
theorem dX5_takesOf_24 : decode cX5_takesOf 24 = .ok (.goto 4, 3) := by decide +kernel
theorem dX5_takesOf_27 : decode cX5_takesOf 27 = .ok (.iconst 0, 1) := by decide +kernel
theorem dX5_takesOf_28 : decode cX5_takesOf 28 = .ok (.iadd, 1) := by decide +kernel
theorem dX5_takesOf_29 : decode cX5_takesOf 29 = .ok (.istore_n 2, 1) := by decide +kernel
theorem dX5_takesOf_30 : decode cX5_takesOf 30 = .ok (.iinc 3 1, 3) := by decide +kernel
theorem dX5_takesOf_33 : decode cX5_takesOf 33 = .ok (.goto (-29), 3) := by decide +kernel
theorem dX5_takesOf_36 : decode cX5_takesOf 36 = .ok (.iload_n 2, 1) := by decide +kernel
theorem dX5_takesOf_37 : decode cX5_takesOf 37 = .ok (.ireturn, 1) := by decide +kernel
theorem dX5_take_0 : decode cX5_take 0 = .ok (.aload_n 0, 1) := by decide +kernel
theorem dX5_take_1 : decode cX5_take 1 = .ok (.iload_n 1, 1) := by decide +kernel
theorem dX5_take_2 : decode cX5_take 2 = .ok (.invokevirtual 78, 3) := by decide +kernel
theorem dX5_take_5 : decode cX5_take 5 = .ok (.ifCond .eq 13, 3) := by decide +kernel
theorem dX5_take_8 : decode cX5_take 8 = .ok (.iload_n 2, 1) := by decide +kernel
theorem dX5_take_9 : decode cX5_take 9 = .ok (.iconst 0, 1) := by decide +kernel
theorem dX5_take_10 : decode cX5_take 10 = .ok (.bipush 20, 2) := by decide +kernel
theorem dX5_take_12 : decode cX5_take 12 = .ok (.invokestatic 68, 3) := by decide +kernel
theorem dX5_take_15 : decode cX5_take 15 = .ok (.ifCond .ne 5, 3) := by decide +kernel
theorem dX5_take_18 : decode cX5_take 18 = .ok (.iconst (-1), 1) := by decide +kernel
theorem dX5_take_19 : decode cX5_take 19 = .ok (.ireturn, 1) := by decide +kernel
theorem dX5_take_20 : decode cX5_take 20 = .ok (.aload_n 0, 1) := by decide +kernel
theorem dX5_take_21 : decode cX5_take 21 = .ok (.getfield 75, 3) := by decide +kernel
theorem dX5_take_24 : decode cX5_take 24 = .ok (.bipush 16, 2) := by decide +kernel
theorem dX5_take_26 : decode cX5_take 26 = .ok (.if_icmp .eq 12, 3) := by decide +kernel
theorem dX5_take_29 : decode cX5_take 29 = .ok (.aload_n 0, 1) := by decide +kernel
theorem dX5_take_30 : decode cX5_take 30 = .ok (.iload_n 1, 1) := by decide +kernel
theorem dX5_take_31 : decode cX5_take 31 = .ok (.invokevirtual 85, 3) := by decide +kernel
theorem dX5_take_34 : decode cX5_take 34 = .ok (.iconst 4, 1) := by decide +kernel
theorem dX5_take_35 : decode cX5_take 35 = .ok (.if_icmp .ne 6, 3) := by decide +kernel
theorem dX5_take_38 : decode cX5_take 38 = .ok (.bipush (-2), 2) := by decide +kernel
theorem dX5_take_40 : decode cX5_take 40 = .ok (.ireturn, 1) := by decide +kernel
theorem dX5_take_41 : decode cX5_take 41 = .ok (.aload_n 0, 1) := by decide +kernel
theorem dX5_take_42 : decode cX5_take 42 = .ok (.getfield 28, 3) := by decide +kernel
theorem dX5_take_45 : decode cX5_take 45 = .ok (.aload_n 0, 1) := by decide +kernel
theorem dX5_take_46 : decode cX5_take 46 = .ok (.getfield 75, 3) := by decide +kernel
theorem dX5_take_49 : decode cX5_take 49 = .ok (.iload_n 1, 1) := by decide +kernel
theorem dX5_take_50 : decode cX5_take 50 = .ok (.iastore, 1) := by decide +kernel
theorem dX5_take_51 : decode cX5_take 51 = .ok (.aload_n 0, 1) := by decide +kernel
theorem dX5_take_52 : decode cX5_take 52 = .ok (.getfield 31, 3) := by decide +kernel
theorem dX5_take_55 : decode cX5_take 55 = .ok (.aload_n 0, 1) := by decide +kernel
theorem dX5_take_56 : decode cX5_take 56 = .ok (.getfield 75, 3) := by decide +kernel
theorem dX5_take_59 : decode cX5_take 59 = .ok (.iload_n 2, 1) := by decide +kernel
end
section
theorem dX5_take_60 : decode cX5_take 60 = .ok (.iastore, 1) := by decide +kernel
theorem dX5_take_61 : decode cX5_take 61 = .ok (.iconst 0, 1) := by decide +kernel
theorem dX5_take_62 : decode cX5_take 62 = .ok (.istore_n 3, 1) := by decide +kernel
theorem dX5_take_63 : decode cX5_take 63 = .ok (.iload_n 3, 1) := by decide +kernel
theorem dX5_take_64 : decode cX5_take 64 = .ok (.bipush 6, 2) := by decide +kernel
theorem dX5_take_66 : decode cX5_take 66 = .ok (.if_icmp .ge 24, 3) := by decide +kernel
theorem dX5_take_69 : decode cX5_take 69 = .ok (.aload_n 0, 1) := by decide +kernel
theorem dX5_take_70 : decode cX5_take 70 = .ok (.getfield 34, 3) := by decide +kernel
theorem dX5_take_73 : decode cX5_take 73 = .ok (.bipush 6, 2) := by decide +kernel
theorem dX5_take_75 : decode cX5_take 75 = .ok (.aload_n 0, 1) := by decide +kernel
theorem dX5_take_76 : decode cX5_take 76 = .ok (.getfield 75, 3) := by decide +kernel
theorem dX5_take_79 : decode cX5_take 79 = .ok (.imul, 1) := by decide +kernel
theorem dX5_take_80 : decode cX5_take 80 = .ok (.iload_n 3, 1) := by decide +kernel
theorem dX5_take_81 : decode cX5_take 81 = .ok (.iadd, 1) := by decide +kernel
theorem dX5_take_82 : decode cX5_take 82 = .ok (.iconst (-1), 1) := by decide +kernel
theorem dX5_take_83 : decode cX5_take 83 = .ok (.iastore, 1) := by decide +kernel
theorem dX5_take_84 : decode cX5_take 84 = .ok (.iinc 3 1, 3) := by decide +kernel
theorem dX5_take_87 : decode cX5_take 87 = .ok (.goto (-24), 3) := by decide +kernel
theorem dX5_take_90 : decode cX5_take 90 = .ok (.aload_n 0, 1) := by decide +kernel
theorem dX5_take_91 : decode cX5_take 91 = .ok (.dup, 1) := by decide +kernel
theorem dX5_take_92 : decode cX5_take 92 = .ok (.getfield 75, 3) := by decide +kernel
theorem dX5_take_95 : decode cX5_take 95 = .ok (.iconst 1, 1) := by decide +kernel
theorem dX5_take_96 : decode cX5_take 96 = .ok (.iadd, 1) := by decide +kernel
theorem dX5_take_97 : decode cX5_take 97 = .ok (.putfield 75, 3) := by decide +kernel
theorem dX5_take_100 : decode cX5_take 100 = .ok (.aload_n 0, 1) := by decide +kernel
theorem dX5_take_101 : decode cX5_take 101 = .ok (.getfield 75, 3) := by decide +kernel
theorem dX5_take_104 : decode cX5_take 104 = .ok (.iconst 1, 1) := by decide +kernel
theorem dX5_take_105 : decode cX5_take 105 = .ok (.isub, 1) := by decide +kernel
theorem dX5_take_106 : decode cX5_take 106 = .ok (.ireturn, 1) := by decide +kernel
theorem dX5_show_0 : decode cX5_show 0 = .ok (.aload_n 0, 1) := by decide +kernel
theorem dX5_show_1 : decode cX5_show 1 = .ok (.iload_n 1, 1) := by decide +kernel
theorem dX5_show_2 : decode cX5_show 2 = .ok (.invokevirtual 89, 3) := by decide +kernel
theorem dX5_show_5 : decode cX5_show 5 = .ok (.ifCond .eq 21, 3) := by decide +kernel
theorem dX5_show_8 : decode cX5_show 8 = .ok (.aload_n 0, 1) := by decide +kernel
theorem dX5_show_9 : decode cX5_show 9 = .ok (.iload_n 2, 1) := by decide +kernel
theorem dX5_show_10 : decode cX5_show 10 = .ok (.invokevirtual 82, 3) := by decide +kernel
theorem dX5_show_13 : decode cX5_show 13 = .ok (.ifCond .eq 13, 3) := by decide +kernel
theorem dX5_show_16 : decode cX5_show 16 = .ok (.iload_n 3, 1) := by decide +kernel
theorem dX5_show_17 : decode cX5_show 17 = .ok (.iconst (-1), 1) := by decide +kernel
theorem dX5_show_18 : decode cX5_show 18 = .ok (.bipush 99, 2) := by decide +kernel
theorem dX5_show_20 : decode cX5_show 20 = .ok (.invokestatic 68, 3) := by decide +kernel
theorem dX5_show_23 : decode cX5_show 23 = .ok (.ifCond .ne 6, 3) := by decide +kernel
theorem dX5_show_26 : decode cX5_show 26 = .ok (.bipush (-5), 2) := by decide +kernel
theorem dX5_show_28 : decode cX5_show 28 = .ok (.ireturn, 1) := by decide +kernel
theorem dX5_show_29 : decode cX5_show 29 = .ok (.aload_n 0, 1) := by decide +kernel
theorem dX5_show_30 : decode cX5_show 30 = .ok (.getfield 34, 3) := by decide +kernel
theorem dX5_show_33 : decode cX5_show 33 = .ok (.bipush 6, 2) := by decide +kernel
theorem dX5_show_35 : decode cX5_show 35 = .ok (.iload_n 1, 1) := by decide +kernel
theorem dX5_show_36 : decode cX5_show 36 = .ok (.imul, 1) := by decide +kernel
theorem dX5_show_37 : decode cX5_show 37 = .ok (.iload_n 2, 1) := by decide +kernel
theorem dX5_show_38 : decode cX5_show 38 = .ok (.iadd, 1) := by decide +kernel
theorem dX5_show_39 : decode cX5_show 39 = .ok (.iaload, 1) := by decide +kernel
theorem dX5_show_40 : decode cX5_show 40 = .ok (.istore 4, 2) := by decide +kernel
theorem dX5_show_42 : decode cX5_show 42 = .ok (.aload_n 0, 1) := by decide +kernel
theorem dX5_show_43 : decode cX5_show 43 = .ok (.getfield 34, 3) := by decide +kernel
theorem dX5_show_46 : decode cX5_show 46 = .ok (.bipush 6, 2) := by decide +kernel
theorem dX5_show_48 : decode cX5_show 48 = .ok (.iload_n 1, 1) := by decide +kernel
theorem dX5_show_49 : decode cX5_show 49 = .ok (.imul, 1) := by decide +kernel
theorem dX5_show_50 : decode cX5_show 50 = .ok (.iload_n 2, 1) := by decide +kernel
theorem dX5_show_51 : decode cX5_show 51 = .ok (.iadd, 1) := by decide +kernel
theorem dX5_show_52 : decode cX5_show 52 = .ok (.iload_n 3, 1) := by decide +kernel
theorem dX5_show_53 : decode cX5_show 53 = .ok (.iastore, 1) := by decide +kernel
theorem dX5_show_54 : decode cX5_show 54 = .ok (.iload 4, 2) := by decide +kernel
theorem dX5_show_56 : decode cX5_show 56 = .ok (.ireturn, 1) := by decide +kernel
theorem dX5_like_0 : decode cX5_like 0 = .ok (.aload_n 0, 1) := by decide +kernel
theorem dX5_like_1 : decode cX5_like 1 = .ok (.iload_n 1, 1) := by decide +kernel
theorem dX5_like_2 : decode cX5_like 2 = .ok (.invokevirtual 89, 3) := by decide +kernel
theorem dX5_like_5 : decode cX5_like 5 = .ok (.ifCond .eq 11, 3) := by decide +kernel
theorem dX5_like_8 : decode cX5_like 8 = .ok (.aload_n 0, 1) := by decide +kernel
theorem dX5_like_9 : decode cX5_like 9 = .ok (.iload_n 2, 1) := by decide +kernel
theorem dX5_like_10 : decode cX5_like 10 = .ok (.invokevirtual 89, 3) := by decide +kernel
theorem dX5_like_13 : decode cX5_like 13 = .ok (.ifCond .ne 5, 3) := by decide +kernel
theorem dX5_like_16 : decode cX5_like 16 = .ok (.iconst (-1), 1) := by decide +kernel
theorem dX5_like_17 : decode cX5_like 17 = .ok (.ireturn, 1) := by decide +kernel
theorem dX5_like_18 : decode cX5_like 18 = .ok (.iconst 0, 1) := by decide +kernel
theorem dX5_like_19 : decode cX5_like 19 = .ok (.istore_n 3, 1) := by decide +kernel
theorem dX5_like_20 : decode cX5_like 20 = .ok (.iconst 0, 1) := by decide +kernel
theorem dX5_like_21 : decode cX5_like 21 = .ok (.istore 4, 2) := by decide +kernel
theorem dX5_like_23 : decode cX5_like 23 = .ok (.iload 4, 2) := by decide +kernel
theorem dX5_like_25 : decode cX5_like 25 = .ok (.aload_n 0, 1) := by decide +kernel
theorem dX5_like_26 : decode cX5_like 26 = .ok (.getfield 72, 3) := by decide +kernel
theorem dX5_like_29 : decode cX5_like 29 = .ok (.if_icmp .ge 68, 3) := by decide +kernel
theorem dX5_like_32 : decode cX5_like 32 = .ok (.iload_n 3, 1) := by decide +kernel
theorem dX5_like_33 : decode cX5_like 33 = .ok (.aload_n 0, 1) := by decide +kernel
theorem dX5_like_34 : decode cX5_like 34 = .ok (.getfield 34, 3) := by decide +kernel
theorem dX5_like_37 : decode cX5_like 37 = .ok (.bipush 6, 2) := by decide +kernel
theorem dX5_like_39 : decode cX5_like 39 = .ok (.iload_n 1, 1) := by decide +kernel
theorem dX5_like_40 : decode cX5_like 40 = .ok (.imul, 1) := by decide +kernel
theorem dX5_like_41 : decode cX5_like 41 = .ok (.iload 4, 2) := by decide +kernel
theorem dX5_like_43 : decode cX5_like 43 = .ok (.iadd, 1) := by decide +kernel
theorem dX5_like_44 : decode cX5_like 44 = .ok (.iaload, 1) := by decide +kernel
theorem dX5_like_45 : decode cX5_like 45 = .ok (.aload_n 0, 1) := by decide +kernel
theorem dX5_like_46 : decode cX5_like 46 = .ok (.getfield 34, 3) := by decide +kernel
theorem dX5_like_49 : decode cX5_like 49 = .ok (.bipush 6, 2) := by decide +kernel
theorem dX5_like_51 : decode cX5_like 51 = .ok (.iload_n 2, 1) := by decide +kernel
theorem dX5_like_52 : decode cX5_like 52 = .ok (.imul, 1) := by decide +kernel
theorem dX5_like_53 : decode cX5_like 53 = .ok (.iload 4, 2) := by decide +kernel
theorem dX5_like_55 : decode cX5_like 55 = .ok (.iadd, 1) := by decide +kernel
theorem dX5_like_56 : decode cX5_like 56 = .ok (.iaload, 1) := by decide +kernel
theorem dX5_like_57 : decode cX5_like 57 = .ok (.if_icmp .eq 7, 3) := by decide +kernel
theorem dX5_like_60 : decode cX5_like 60 = .ok (.iconst 1, 1) := by decide +kernel
theorem dX5_like_61 : decode cX5_like 61 = .ok (.goto 4, 3) := by decide +kernel
theorem dX5_like_64 : decode cX5_like 64 = .ok (.iconst 0, 1) := by decide +kernel
theorem dX5_like_65 : decode cX5_like 65 = .ok (.iadd, 1) := by decide +kernel
theorem dX5_like_66 : decode cX5_like 66 = .ok (.istore_n 3, 1) := by decide +kernel
theorem dX5_like_67 : decode cX5_like 67 = .ok (.aload_n 0, 1) := by decide +kernel
theorem dX5_like_68 : decode cX5_like 68 = .ok (.getfield 34, 3) := by decide +kernel
theorem dX5_like_71 : decode cX5_like 71 = .ok (.bipush 6, 2) := by decide +kernel
theorem dX5_like_73 : decode cX5_like 73 = .ok (.iload_n 1, 1) := by decide +kernel
theorem dX5_like_74 : decode cX5_like 74 = .ok (.imul, 1) := by decide +kernel
theorem dX5_like_75 : decode cX5_like 75 = .ok (.iload 4, 2) := by decide +kernel
theorem dX5_like_77 : decode cX5_like 77 = .ok (.iadd, 1) := by decide +kernel
theorem dX5_like_78 : decode cX5_like 78 = .ok (.aload_n 0, 1) := by decide +kernel
theorem dX5_like_79 : decode cX5_like 79 = .ok (.getfield 34, 3) := by decide +kernel
theorem dX5_like_82 : decode cX5_like 82 = .ok (.bipush 6, 2) := by decide +kernel
theorem dX5_like_84 : decode cX5_like 84 = .ok (.iload_n 2, 1) := by decide +kernel
theorem dX5_like_85 : decode cX5_like 85 = .ok (.imul, 1) := by decide +kernel
theorem dX5_like_86 : decode cX5_like 86 = .ok (.iload 4, 2) := by decide +kernel
theorem dX5_like_88 : decode cX5_like 88 = .ok (.iadd, 1) := by decide +kernel
theorem dX5_like_89 : decode cX5_like 89 = .ok (.iaload, 1) := by decide +kernel
theorem dX5_like_90 : decode cX5_like 90 = .ok (.iastore, 1) := by decide +kernel
theorem dX5_like_91 : decode cX5_like 91 = .ok (.iinc 4 1, 3) := by decide +kernel
theorem dX5_like_94 : decode cX5_like 94 = .ok (.goto (-71), 3) := by decide +kernel
theorem dX5_like_97 : decode cX5_like 97 = .ok (.iload_n 3, 1) := by decide +kernel
theorem dX5_like_98 : decode cX5_like 98 = .ok (.ireturn, 1) := by decide +kernel
theorem dX5_of_0 : decode cX5_of 0 = .ok (.aload_n 0, 1) := by decide +kernel
theorem dX5_of_1 : decode cX5_of 1 = .ok (.iload_n 1, 1) := by decide +kernel
theorem dX5_of_2 : decode cX5_of 2 = .ok (.invokevirtual 78, 3) := by decide +kernel
theorem dX5_of_5 : decode cX5_of 5 = .ok (.ifCond .eq 12, 3) := by decide +kernel
theorem dX5_of_8 : decode cX5_of 8 = .ok (.iload_n 2, 1) := by decide +kernel
theorem dX5_of_9 : decode cX5_of 9 = .ok (.iconst 0, 1) := by decide +kernel
theorem dX5_of_10 : decode cX5_of 10 = .ok (.iconst 3, 1) := by decide +kernel
theorem dX5_of_11 : decode cX5_of 11 = .ok (.invokestatic 68, 3) := by decide +kernel
theorem dX5_of_14 : decode cX5_of 14 = .ok (.ifCond .ne 5, 3) := by decide +kernel
theorem dX5_of_17 : decode cX5_of 17 = .ok (.iconst (-1), 1) := by decide +kernel
theorem dX5_of_18 : decode cX5_of 18 = .ok (.ireturn, 1) := by decide +kernel
theorem dX5_of_19 : decode cX5_of 19 = .ok (.iload_n 2, 1) := by decide +kernel
theorem dX5_of_20 : decode cX5_of 20 = .ok (.tableswitch 48 0 2 #[28, 35, 42], 28) := by decide +kernel
theorem dX5_of_48 : decode cX5_of 48 = .ok (.aload_n 0, 1) := by decide +kernel
theorem dX5_of_49 : decode cX5_of 49 = .ok (.getfield 7, 3) := by decide +kernel
theorem dX5_of_52 : decode cX5_of 52 = .ok (.iload_n 1, 1) := by decide +kernel
theorem dX5_of_53 : decode cX5_of 53 = .ok (.iaload, 1) := by decide +kernel
theorem dX5_of_54 : decode cX5_of 54 = .ok (.ireturn, 1) := by decide +kernel
theorem dX5_of_55 : decode cX5_of 55 = .ok (.aload_n 0, 1) := by decide +kernel
theorem dX5_of_56 : decode cX5_of 56 = .ok (.getfield 13, 3) := by decide +kernel
theorem dX5_of_59 : decode cX5_of 59 = .ok (.iload_n 1, 1) := by decide +kernel
theorem dX5_of_60 : decode cX5_of 60 = .ok (.iaload, 1) := by decide +kernel
theorem dX5_of_61 : decode cX5_of 61 = .ok (.ireturn, 1) := by decide +kernel
theorem dX5_of_62 : decode cX5_of 62 = .ok (.aload_n 0, 1) := by decide +kernel
theorem dX5_of_63 : decode cX5_of 63 = .ok (.iload_n 1, 1) := by decide +kernel
theorem dX5_of_64 : decode cX5_of 64 = .ok (.invokevirtual 85, 3) := by decide +kernel
theorem dX5_of_67 : decode cX5_of 67 = .ok (.ireturn, 1) := by decide +kernel
theorem dX5_of_68 : decode cX5_of 68 = .ok (.aload_n 0, 1) := by decide +kernel
theorem dX5_of_69 : decode cX5_of 69 = .ok (.getfield 16, 3) := by decide +kernel
theorem dX5_of_72 : decode cX5_of 72 = .ok (.iload_n 1, 1) := by decide +kernel
theorem dX5_of_73 : decode cX5_of 73 = .ok (.iaload, 1) := by decide +kernel
theorem dX5_of_74 : decode cX5_of 74 = .ok (.ifCond .ge 8, 3) := by decide +kernel
theorem dX5_of_77 : decode cX5_of 77 = .ok (.bipush (-4), 2) := by decide +kernel
theorem dX5_of_79 : decode cX5_of 79 = .ok (.goto 9, 3) := by decide +kernel
theorem dX5_of_82 : decode cX5_of 82 = .ok (.aload_n 0, 1) := by decide +kernel
theorem dX5_of_83 : decode cX5_of 83 = .ok (.getfield 16, 3) := by decide +kernel
theorem dX5_of_86 : decode cX5_of 86 = .ok (.iload_n 1, 1) := by decide +kernel
theorem dX5_of_87 : decode cX5_of 87 = .ok (.iaload, 1) := by decide +kernel
theorem dX5_of_88 : decode cX5_of 88 = .ok (.ireturn, 1) := by decide +kernel
theorem dX5_told_0 : decode cX5_told 0 = .ok (.aload_n 0, 1) := by decide +kernel
theorem dX5_told_1 : decode cX5_told 1 = .ok (.iload_n 1, 1) := by decide +kernel
theorem dX5_told_2 : decode cX5_told 2 = .ok (.invokevirtual 89, 3) := by decide +kernel
theorem dX5_told_5 : decode cX5_told 5 = .ok (.ifCond .ne 5, 3) := by decide +kernel
theorem dX5_told_8 : decode cX5_told 8 = .ok (.iconst (-1), 1) := by decide +kernel
theorem dX5_told_9 : decode cX5_told 9 = .ok (.ireturn, 1) := by decide +kernel
theorem dX5_told_10 : decode cX5_told 10 = .ok (.iload_n 2, 1) := by decide +kernel
theorem dX5_told_11 : decode cX5_told 11 = .ok (.ifCond .eq 8, 3) := by decide +kernel
theorem dX5_told_14 : decode cX5_told 14 = .ok (.iload_n 2, 1) := by decide +kernel
theorem dX5_told_15 : decode cX5_told 15 = .ok (.iconst 1, 1) := by decide +kernel
theorem dX5_told_16 : decode cX5_told 16 = .ok (.if_icmp .ne 23, 3) := by decide +kernel
theorem dX5_told_19 : decode cX5_told 19 = .ok (.iload_n 2, 1) := by decide +kernel
theorem dX5_told_20 : decode cX5_told 20 = .ok (.ifCond .ne 12, 3) := by decide +kernel
theorem dX5_told_23 : decode cX5_told 23 = .ok (.aload_n 0, 1) := by decide +kernel
theorem dX5_told_24 : decode cX5_told 24 = .ok (.getfield 28, 3) := by decide +kernel
theorem dX5_told_27 : decode cX5_told 27 = .ok (.iload_n 1, 1) := by decide +kernel
theorem dX5_told_28 : decode cX5_told 28 = .ok (.iaload, 1) := by decide +kernel
theorem dX5_told_29 : decode cX5_told 29 = .ok (.goto 9, 3) := by decide +kernel
theorem dX5_told_32 : decode cX5_told 32 = .ok (.aload_n 0, 1) := by decide +kernel
theorem dX5_told_33 : decode cX5_told 33 = .ok (.getfield 31, 3) := by decide +kernel
theorem dX5_told_36 : decode cX5_told 36 = .ok (.iload_n 1, 1) := by decide +kernel
theorem dX5_told_37 : decode cX5_told 37 = .ok (.iaload, 1) := by decide +kernel
theorem dX5_told_38 : decode cX5_told 38 = .ok (.ireturn, 1) := by decide +kernel
theorem dX5_told_39 : decode cX5_told 39 = .ok (.iload_n 2, 1) := by decide +kernel
theorem dX5_told_40 : decode cX5_told 40 = .ok (.iconst 2, 1) := by decide +kernel
theorem dX5_told_41 : decode cX5_told 41 = .ok (.if_icmp .ne 48, 3) := by decide +kernel
theorem dX5_told_44 : decode cX5_told 44 = .ok (.iconst 0, 1) := by decide +kernel
theorem dX5_told_45 : decode cX5_told 45 = .ok (.istore_n 3, 1) := by decide +kernel
theorem dX5_told_46 : decode cX5_told 46 = .ok (.iconst 0, 1) := by decide +kernel
theorem dX5_told_47 : decode cX5_told 47 = .ok (.istore 4, 2) := by decide +kernel
theorem dX5_told_49 : decode cX5_told 49 = .ok (.iload 4, 2) := by decide +kernel
theorem dX5_told_51 : decode cX5_told 51 = .ok (.aload_n 0, 1) := by decide +kernel
theorem dX5_told_52 : decode cX5_told 52 = .ok (.getfield 72, 3) := by decide +kernel
theorem dX5_told_55 : decode cX5_told 55 = .ok (.if_icmp .ge 32, 3) := by decide +kernel
theorem dX5_told_58 : decode cX5_told 58 = .ok (.iload_n 3, 1) := by decide +kernel
theorem dX5_told_59 : decode cX5_told 59 = .ok (.aload_n 0, 1) := by decide +kernel
theorem dX5_told_60 : decode cX5_told 60 = .ok (.getfield 34, 3) := by decide +kernel
theorem dX5_told_63 : decode cX5_told 63 = .ok (.bipush 6, 2) := by decide +kernel
theorem dX5_told_65 : decode cX5_told 65 = .ok (.iload_n 1, 1) := by decide +kernel
theorem dX5_told_66 : decode cX5_told 66 = .ok (.imul, 1) := by decide +kernel
theorem dX5_told_67 : decode cX5_told 67 = .ok (.iload 4, 2) := by decide +kernel
theorem dX5_told_69 : decode cX5_told 69 = .ok (.iadd, 1) := by decide +kernel
theorem dX5_told_70 : decode cX5_told 70 = .ok (.iaload, 1) := by decide +kernel
theorem dX5_told_71 : decode cX5_told 71 = .ok (.ifCond .lt 7, 3) := by decide +kernel
theorem dX5_told_74 : decode cX5_told 74 = .ok (.iconst 1, 1) := by decide +kernel
theorem dX5_told_75 : decode cX5_told 75 = .ok (.goto 4, 3) := by decide +kernel
theorem dX5_told_78 : decode cX5_told 78 = .ok (.iconst 0, 1) := by decide +kernel
theorem dX5_told_79 : decode cX5_told 79 = .ok (.iadd, 1) := by decide +kernel
theorem dX5_told_80 : decode cX5_told 80 = .ok (.istore_n 3, 1) := by decide +kernel
theorem dX5_told_81 : decode cX5_told 81 = .ok (.iinc 4 1, 3) := by decide +kernel
theorem dX5_told_84 : decode cX5_told 84 = .ok (.goto (-35), 3) := by decide +kernel
theorem dX5_told_87 : decode cX5_told 87 = .ok (.iload_n 3, 1) := by decide +kernel
theorem dX5_told_88 : decode cX5_told 88 = .ok (.ireturn, 1) := by decide +kernel
theorem dX5_told_89 : decode cX5_told 89 = .ok (.iload_n 2, 1) := by decide +kernel
theorem dX5_told_90 : decode cX5_told 90 = .ok (.bipush 10, 2) := by decide +kernel
theorem dX5_told_92 : decode cX5_told 92 = .ok (.bipush 9, 2) := by decide +kernel
theorem dX5_told_94 : decode cX5_told 94 = .ok (.aload_n 0, 1) := by decide +kernel
theorem dX5_told_95 : decode cX5_told 95 = .ok (.getfield 72, 3) := by decide +kernel
theorem dX5_told_98 : decode cX5_told 98 = .ok (.iadd, 1) := by decide +kernel
theorem dX5_told_99 : decode cX5_told 99 = .ok (.invokestatic 68, 3) := by decide +kernel
theorem dX5_told_102 : decode cX5_told 102 = .ok (.ifCond .ne 5, 3) := by decide +kernel
theorem dX5_told_105 : decode cX5_told 105 = .ok (.iconst (-1), 1) := by decide +kernel
theorem dX5_told_106 : decode cX5_told 106 = .ok (.ireturn, 1) := by decide +kernel
theorem dX5_told_107 : decode cX5_told 107 = .ok (.aload_n 0, 1) := by decide +kernel
theorem dX5_told_108 : decode cX5_told 108 = .ok (.getfield 34, 3) := by decide +kernel
theorem dX5_told_111 : decode cX5_told 111 = .ok (.bipush 6, 2) := by decide +kernel
theorem dX5_told_113 : decode cX5_told 113 = .ok (.iload_n 1, 1) := by decide +kernel
theorem dX5_told_114 : decode cX5_told 114 = .ok (.imul, 1) := by decide +kernel
theorem dX5_told_115 : decode cX5_told 115 = .ok (.iload_n 2, 1) := by decide +kernel
theorem dX5_told_116 : decode cX5_told 116 = .ok (.iadd, 1) := by decide +kernel
theorem dX5_told_117 : decode cX5_told 117 = .ok (.bipush 10, 2) := by decide +kernel
theorem dX5_told_119 : decode cX5_told 119 = .ok (.isub, 1) := by decide +kernel
theorem dX5_told_120 : decode cX5_told 120 = .ok (.iaload, 1) := by decide +kernel
theorem dX5_told_121 : decode cX5_told 121 = .ok (.istore_n 3, 1) := by decide +kernel
theorem dX5_told_122 : decode cX5_told 122 = .ok (.iload_n 3, 1) := by decide +kernel
theorem dX5_told_123 : decode cX5_told 123 = .ok (.ifCond .ge 8, 3) := by decide +kernel
theorem dX5_told_126 : decode cX5_told 126 = .ok (.bipush (-4), 2) := by decide +kernel
theorem dX5_told_128 : decode cX5_told 128 = .ok (.goto 4, 3) := by decide +kernel
theorem dX5_told_131 : decode cX5_told 131 = .ok (.iload_n 3, 1) := by decide +kernel
theorem dX5_told_132 : decode cX5_told 132 = .ok (.ireturn, 1) := by decide +kernel
theorem dX5_thingOf_0 : decode cX5_thingOf 0 = .ok (.aload_n 0, 1) := by decide +kernel
theorem dX5_thingOf_1 : decode cX5_thingOf 1 = .ok (.iload_n 1, 1) := by decide +kernel
theorem dX5_thingOf_2 : decode cX5_thingOf 2 = .ok (.invokevirtual 82, 3) := by decide +kernel
theorem dX5_thingOf_5 : decode cX5_thingOf 5 = .ok (.ifCond .eq 12, 3) := by decide +kernel
theorem dX5_thingOf_8 : decode cX5_thingOf 8 = .ok (.iload_n 2, 1) := by decide +kernel
theorem dX5_thingOf_9 : decode cX5_thingOf 9 = .ok (.iconst 0, 1) := by decide +kernel
theorem dX5_thingOf_10 : decode cX5_thingOf 10 = .ok (.iconst 3, 1) := by decide +kernel
theorem dX5_thingOf_11 : decode cX5_thingOf 11 = .ok (.invokestatic 68, 3) := by decide +kernel
theorem dX5_thingOf_14 : decode cX5_thingOf 14 = .ok (.ifCond .ne 5, 3) := by decide +kernel
theorem dX5_thingOf_17 : decode cX5_thingOf 17 = .ok (.iconst (-1), 1) := by decide +kernel
theorem dX5_thingOf_18 : decode cX5_thingOf 18 = .ok (.ireturn, 1) := by decide +kernel
theorem dX5_thingOf_19 : decode cX5_thingOf 19 = .ok (.iload_n 2, 1) := by decide +kernel
theorem dX5_thingOf_20 : decode cX5_thingOf 20 = .ok (.iconst 3, 1) := by decide +kernel
theorem dX5_thingOf_21 : decode cX5_thingOf 21 = .ok (.if_icmp .ge 37, 3) := by decide +kernel
theorem dX5_thingOf_24 : decode cX5_thingOf 24 = .ok (.iload_n 2, 1) := by decide +kernel
theorem dX5_thingOf_25 : decode cX5_thingOf 25 = .ok (.ifCond .ne 12, 3) := by decide +kernel
theorem dX5_thingOf_28 : decode cX5_thingOf 28 = .ok (.aload_n 0, 1) := by decide +kernel
theorem dX5_thingOf_29 : decode cX5_thingOf 29 = .ok (.getfield 19, 3) := by decide +kernel
theorem dX5_thingOf_32 : decode cX5_thingOf 32 = .ok (.iload_n 1, 1) := by decide +kernel
theorem dX5_thingOf_33 : decode cX5_thingOf 33 = .ok (.iaload, 1) := by decide +kernel
theorem dX5_thingOf_34 : decode cX5_thingOf 34 = .ok (.goto 23, 3) := by decide +kernel
theorem dX5_thingOf_37 : decode cX5_thingOf 37 = .ok (.iload_n 2, 1) := by decide +kernel
theorem dX5_thingOf_38 : decode cX5_thingOf 38 = .ok (.iconst 1, 1) := by decide +kernel
theorem dX5_thingOf_39 : decode cX5_thingOf 39 = .ok (.if_icmp .ne 12, 3) := by decide +kernel
theorem dX5_thingOf_42 : decode cX5_thingOf 42 = .ok (.aload_n 0, 1) := by decide +kernel
theorem dX5_thingOf_43 : decode cX5_thingOf 43 = .ok (.getfield 22, 3) := by decide +kernel
theorem dX5_thingOf_46 : decode cX5_thingOf 46 = .ok (.iload_n 1, 1) := by decide +kernel
theorem dX5_thingOf_47 : decode cX5_thingOf 47 = .ok (.iaload, 1) := by decide +kernel
theorem dX5_thingOf_48 : decode cX5_thingOf 48 = .ok (.goto 9, 3) := by decide +kernel
theorem dX5_thingOf_51 : decode cX5_thingOf 51 = .ok (.aload_n 0, 1) := by decide +kernel
theorem dX5_thingOf_52 : decode cX5_thingOf 52 = .ok (.getfield 25, 3) := by decide +kernel
theorem dX5_thingOf_55 : decode cX5_thingOf 55 = .ok (.iload_n 1, 1) := by decide +kernel
theorem dX5_thingOf_56 : decode cX5_thingOf 56 = .ok (.iaload, 1) := by decide +kernel
theorem dX5_thingOf_57 : decode cX5_thingOf 57 = .ok (.ireturn, 1) := by decide +kernel
theorem dX5_thingOf_58 : decode cX5_thingOf 58 = .ok (.iconst 0, 1) := by decide +kernel
theorem dX5_thingOf_59 : decode cX5_thingOf 59 = .ok (.istore_n 3, 1) := by decide +kernel
theorem dX5_thingOf_60 : decode cX5_thingOf 60 = .ok (.iconst 0, 1) := by decide +kernel
theorem dX5_thingOf_61 : decode cX5_thingOf 61 = .ok (.istore 4, 2) := by decide +kernel
theorem dX5_thingOf_63 : decode cX5_thingOf 63 = .ok (.iload 4, 2) := by decide +kernel
theorem dX5_thingOf_65 : decode cX5_thingOf 65 = .ok (.aload_n 0, 1) := by decide +kernel
theorem dX5_thingOf_66 : decode cX5_thingOf 66 = .ok (.getfield 75, 3) := by decide +kernel
theorem dX5_thingOf_69 : decode cX5_thingOf 69 = .ok (.if_icmp .ge 32, 3) := by decide +kernel
theorem dX5_thingOf_72 : decode cX5_thingOf 72 = .ok (.iload_n 3, 1) := by decide +kernel
theorem dX5_thingOf_73 : decode cX5_thingOf 73 = .ok (.aload_n 0, 1) := by decide +kernel
theorem dX5_thingOf_74 : decode cX5_thingOf 74 = .ok (.getfield 34, 3) := by decide +kernel
theorem dX5_thingOf_77 : decode cX5_thingOf 77 = .ok (.bipush 6, 2) := by decide +kernel
theorem dX5_thingOf_79 : decode cX5_thingOf 79 = .ok (.iload 4, 2) := by decide +kernel
theorem dX5_thingOf_81 : decode cX5_thingOf 81 = .ok (.imul, 1) := by decide +kernel
theorem dX5_thingOf_82 : decode cX5_thingOf 82 = .ok (.iload_n 1, 1) := by decide +kernel
theorem dX5_thingOf_83 : decode cX5_thingOf 83 = .ok (.iadd, 1) := by decide +kernel
theorem dX5_thingOf_84 : decode cX5_thingOf 84 = .ok (.iaload, 1) := by decide +kernel
theorem dX5_thingOf_85 : decode cX5_thingOf 85 = .ok (.ifCond .lt 7, 3) := by decide +kernel
theorem dX5_thingOf_88 : decode cX5_thingOf 88 = .ok (.iconst 1, 1) := by decide +kernel
theorem dX5_thingOf_89 : decode cX5_thingOf 89 = .ok (.goto 4, 3) := by decide +kernel
theorem dX5_thingOf_92 : decode cX5_thingOf 92 = .ok (.iconst 0, 1) := by decide +kernel
theorem dX5_thingOf_93 : decode cX5_thingOf 93 = .ok (.iadd, 1) := by decide +kernel
theorem dX5_thingOf_94 : decode cX5_thingOf 94 = .ok (.istore_n 3, 1) := by decide +kernel
theorem dX5_thingOf_95 : decode cX5_thingOf 95 = .ok (.iinc 4 1, 3) := by decide +kernel
theorem dX5_thingOf_98 : decode cX5_thingOf 98 = .ok (.goto (-35), 3) := by decide +kernel
theorem dX5_thingOf_101 : decode cX5_thingOf 101 = .ok (.iload_n 3, 1) := by decide +kernel
theorem dX5_thingOf_102 : decode cX5_thingOf 102 = .ok (.ireturn, 1) := by decide +kernel
theorem dX5_isAhead_0 : decode cX5_isAhead 0 = .ok (.aload_n 0, 1) := by decide +kernel
theorem dX5_isAhead_1 : decode cX5_isAhead 1 = .ok (.getfield 7, 3) := by decide +kernel
theorem dX5_isAhead_4 : decode cX5_isAhead 4 = .ok (.iload_n 1, 1) := by decide +kernel
theorem dX5_isAhead_5 : decode cX5_isAhead 5 = .ok (.iaload, 1) := by decide +kernel
theorem dX5_isAhead_6 : decode cX5_isAhead 6 = .ok (.aload_n 0, 1) := by decide +kernel
theorem dX5_isAhead_7 : decode cX5_isAhead 7 = .ok (.getfield 7, 3) := by decide +kernel
theorem dX5_isAhead_10 : decode cX5_isAhead 10 = .ok (.iload_n 2, 1) := by decide +kernel
theorem dX5_isAhead_11 : decode cX5_isAhead 11 = .ok (.iaload, 1) := by decide +kernel
theorem dX5_isAhead_12 : decode cX5_isAhead 12 = .ok (.if_icmp .lt 33, 3) := by decide +kernel
theorem dX5_isAhead_15 : decode cX5_isAhead 15 = .ok (.aload_n 0, 1) := by decide +kernel
theorem dX5_isAhead_16 : decode cX5_isAhead 16 = .ok (.getfield 7, 3) := by decide +kernel
theorem dX5_isAhead_19 : decode cX5_isAhead 19 = .ok (.iload_n 1, 1) := by decide +kernel
theorem dX5_isAhead_20 : decode cX5_isAhead 20 = .ok (.iaload, 1) := by decide +kernel
theorem dX5_isAhead_21 : decode cX5_isAhead 21 = .ok (.aload_n 0, 1) := by decide +kernel
theorem dX5_isAhead_22 : decode cX5_isAhead 22 = .ok (.getfield 7, 3) := by decide +kernel
theorem dX5_isAhead_25 : decode cX5_isAhead 25 = .ok (.iload_n 2, 1) := by decide +kernel
theorem dX5_isAhead_26 : decode cX5_isAhead 26 = .ok (.iaload, 1) := by decide +kernel
theorem dX5_isAhead_27 : decode cX5_isAhead 27 = .ok (.if_icmp .ne 22, 3) := by decide +kernel
theorem dX5_isAhead_30 : decode cX5_isAhead 30 = .ok (.aload_n 0, 1) := by decide +kernel
theorem dX5_isAhead_31 : decode cX5_isAhead 31 = .ok (.getfield 13, 3) := by decide +kernel
theorem dX5_isAhead_34 : decode cX5_isAhead 34 = .ok (.iload_n 1, 1) := by decide +kernel
theorem dX5_isAhead_35 : decode cX5_isAhead 35 = .ok (.iaload, 1) := by decide +kernel
theorem dX5_isAhead_36 : decode cX5_isAhead 36 = .ok (.aload_n 0, 1) := by decide +kernel
theorem dX5_isAhead_37 : decode cX5_isAhead 37 = .ok (.getfield 13, 3) := by decide +kernel
theorem dX5_isAhead_40 : decode cX5_isAhead 40 = .ok (.iload_n 2, 1) := by decide +kernel
theorem dX5_isAhead_41 : decode cX5_isAhead 41 = .ok (.iaload, 1) := by decide +kernel
theorem dX5_isAhead_42 : decode cX5_isAhead 42 = .ok (.if_icmp .ge 7, 3) := by decide +kernel
theorem dX5_isAhead_45 : decode cX5_isAhead 45 = .ok (.iconst 1, 1) := by decide +kernel
theorem dX5_isAhead_46 : decode cX5_isAhead 46 = .ok (.goto 4, 3) := by decide +kernel
theorem dX5_isAhead_49 : decode cX5_isAhead 49 = .ok (.iconst 0, 1) := by decide +kernel
theorem dX5_isAhead_50 : decode cX5_isAhead 50 = .ok (.ireturn, 1) := by decide +kernel
theorem dX5_ahead_0 : decode cX5_ahead 0 = .ok (.aload_n 0, 1) := by decide +kernel
theorem dX5_ahead_1 : decode cX5_ahead 1 = .ok (.iload_n 1, 1) := by decide +kernel
theorem dX5_ahead_2 : decode cX5_ahead 2 = .ok (.invokevirtual 78, 3) := by decide +kernel
theorem dX5_ahead_5 : decode cX5_ahead 5 = .ok (.ifCond .eq 11, 3) := by decide +kernel
theorem dX5_ahead_8 : decode cX5_ahead 8 = .ok (.aload_n 0, 1) := by decide +kernel
theorem dX5_ahead_9 : decode cX5_ahead 9 = .ok (.iload_n 2, 1) := by decide +kernel
theorem dX5_ahead_10 : decode cX5_ahead 10 = .ok (.invokevirtual 78, 3) := by decide +kernel
theorem dX5_ahead_13 : decode cX5_ahead 13 = .ok (.ifCond .ne 5, 3) := by decide +kernel
theorem dX5_ahead_16 : decode cX5_ahead 16 = .ok (.iconst (-1), 1) := by decide +kernel
theorem dX5_ahead_17 : decode cX5_ahead 17 = .ok (.ireturn, 1) := by decide +kernel
theorem dX5_ahead_18 : decode cX5_ahead 18 = .ok (.aload_n 0, 1) := by decide +kernel
theorem dX5_ahead_19 : decode cX5_ahead 19 = .ok (.iload_n 1, 1) := by decide +kernel
theorem dX5_ahead_20 : decode cX5_ahead 20 = .ok (.iload_n 2, 1) := by decide +kernel
theorem dX5_ahead_21 : decode cX5_ahead 21 = .ok (.invokevirtual 92, 3) := by decide +kernel
theorem dX5_ahead_24 : decode cX5_ahead 24 = .ok (.ifCond .eq 7, 3) := by decide +kernel
theorem dX5_ahead_27 : decode cX5_ahead 27 = .ok (.iconst 1, 1) := by decide +kernel
theorem dX5_ahead_28 : decode cX5_ahead 28 = .ok (.goto 17, 3) := by decide +kernel
theorem dX5_ahead_31 : decode cX5_ahead 31 = .ok (.aload_n 0, 1) := by decide +kernel
theorem dX5_ahead_32 : decode cX5_ahead 32 = .ok (.iload_n 2, 1) := by decide +kernel
theorem dX5_ahead_33 : decode cX5_ahead 33 = .ok (.iload_n 1, 1) := by decide +kernel
theorem dX5_ahead_34 : decode cX5_ahead 34 = .ok (.invokevirtual 92, 3) := by decide +kernel
theorem dX5_ahead_37 : decode cX5_ahead 37 = .ok (.ifCond .eq 7, 3) := by decide +kernel
theorem dX5_ahead_40 : decode cX5_ahead 40 = .ok (.iconst 2, 1) := by decide +kernel
theorem dX5_ahead_41 : decode cX5_ahead 41 = .ok (.goto 4, 3) := by decide +kernel
theorem dX5_ahead_44 : decode cX5_ahead 44 = .ok (.iconst 0, 1) := by decide +kernel
theorem dX5_ahead_45 : decode cX5_ahead 45 = .ok (.ireturn, 1) := by decide +kernel
theorem dX5_quarrels_0 : decode cX5_quarrels 0 = .ok (.iload_n 2, 1) := by decide +kernel
theorem dX5_quarrels_1 : decode cX5_quarrels 1 = .ok (.iload 4, 2) := by decide +kernel
theorem dX5_quarrels_3 : decode cX5_quarrels 3 = .ok (.if_icmp .eq 12, 3) := by decide +kernel
theorem dX5_quarrels_6 : decode cX5_quarrels 6 = .ok (.iload_n 3, 1) := by decide +kernel
theorem dX5_quarrels_7 : decode cX5_quarrels 7 = .ok (.ifCond .lt 8, 3) := by decide +kernel
theorem dX5_quarrels_10 : decode cX5_quarrels 10 = .ok (.iload 5, 2) := by decide +kernel
theorem dX5_quarrels_12 : decode cX5_quarrels 12 = .ok (.ifCond .ge 5, 3) := by decide +kernel
theorem dX5_quarrels_15 : decode cX5_quarrels 15 = .ok (.iconst 0, 1) := by decide +kernel
theorem dX5_quarrels_16 : decode cX5_quarrels 16 = .ok (.ireturn, 1) := by decide +kernel
theorem dX5_quarrels_17 : decode cX5_quarrels 17 = .ok (.aload_n 0, 1) := by decide +kernel
theorem dX5_quarrels_18 : decode cX5_quarrels 18 = .ok (.getfield 19, 3) := by decide +kernel
theorem dX5_quarrels_21 : decode cX5_quarrels 21 = .ok (.iload_n 1, 1) := by decide +kernel
theorem dX5_quarrels_22 : decode cX5_quarrels 22 = .ok (.iaload, 1) := by decide +kernel
theorem dX5_quarrels_23 : decode cX5_quarrels 23 = .ok (.ifCond .ne 31, 3) := by decide +kernel
theorem dX5_quarrels_26 : decode cX5_quarrels 26 = .ok (.aload_n 0, 1) := by decide +kernel
theorem dX5_quarrels_27 : decode cX5_quarrels 27 = .ok (.getfield 7, 3) := by decide +kernel
theorem dX5_quarrels_30 : decode cX5_quarrels 30 = .ok (.iload_n 2, 1) := by decide +kernel
theorem dX5_quarrels_31 : decode cX5_quarrels 31 = .ok (.iaload, 1) := by decide +kernel
theorem dX5_quarrels_32 : decode cX5_quarrels 32 = .ok (.aload_n 0, 1) := by decide +kernel
theorem dX5_quarrels_33 : decode cX5_quarrels 33 = .ok (.getfield 7, 3) := by decide +kernel
theorem dX5_quarrels_36 : decode cX5_quarrels 36 = .ok (.iload 4, 2) := by decide +kernel
theorem dX5_quarrels_38 : decode cX5_quarrels 38 = .ok (.iaload, 1) := by decide +kernel
theorem dX5_quarrels_39 : decode cX5_quarrels 39 = .ok (.if_icmp .ne 13, 3) := by decide +kernel
theorem dX5_quarrels_42 : decode cX5_quarrels 42 = .ok (.iload_n 3, 1) := by decide +kernel
theorem dX5_quarrels_43 : decode cX5_quarrels 43 = .ok (.iload 5, 2) := by decide +kernel
theorem dX5_quarrels_45 : decode cX5_quarrels 45 = .ok (.if_icmp .eq 7, 3) := by decide +kernel
theorem dX5_quarrels_48 : decode cX5_quarrels 48 = .ok (.iconst 1, 1) := by decide +kernel
theorem dX5_quarrels_49 : decode cX5_quarrels 49 = .ok (.goto 4, 3) := by decide +kernel
theorem dX5_quarrels_52 : decode cX5_quarrels 52 = .ok (.iconst 0, 1) := by decide +kernel
theorem dX5_quarrels_53 : decode cX5_quarrels 53 = .ok (.ireturn, 1) := by decide +kernel
theorem dX5_quarrels_54 : decode cX5_quarrels 54 = .ok (.aload_n 0, 1) := by decide +kernel
theorem dX5_quarrels_55 : decode cX5_quarrels 55 = .ok (.iload_n 2, 1) := by decide +kernel
theorem dX5_quarrels_56 : decode cX5_quarrels 56 = .ok (.iload 4, 2) := by decide +kernel
theorem dX5_quarrels_58 : decode cX5_quarrels 58 = .ok (.invokevirtual 92, 3) := by decide +kernel
theorem dX5_quarrels_61 : decode cX5_quarrels 61 = .ok (.ifCond .eq 26, 3) := by decide +kernel
theorem dX5_quarrels_64 : decode cX5_quarrels 64 = .ok (.aload_n 0, 1) := by decide +kernel
theorem dX5_quarrels_65 : decode cX5_quarrels 65 = .ok (.iload_n 1, 1) := by decide +kernel
theorem dX5_quarrels_66 : decode cX5_quarrels 66 = .ok (.aload_n 0, 1) := by decide +kernel
theorem dX5_quarrels_67 : decode cX5_quarrels 67 = .ok (.getfield 7, 3) := by decide +kernel
theorem dX5_quarrels_70 : decode cX5_quarrels 70 = .ok (.iload 4, 2) := by decide +kernel
theorem dX5_quarrels_72 : decode cX5_quarrels 72 = .ok (.iaload, 1) := by decide +kernel
theorem dX5_quarrels_73 : decode cX5_quarrels 73 = .ok (.aload_n 0, 1) := by decide +kernel
theorem dX5_quarrels_74 : decode cX5_quarrels 74 = .ok (.getfield 7, 3) := by decide +kernel
theorem dX5_quarrels_77 : decode cX5_quarrels 77 = .ok (.iload_n 2, 1) := by decide +kernel
theorem dX5_quarrels_78 : decode cX5_quarrels 78 = .ok (.iaload, 1) := by decide +kernel
theorem dX5_quarrels_79 : decode cX5_quarrels 79 = .ok (.isub, 1) := by decide +kernel
theorem dX5_quarrels_80 : decode cX5_quarrels 80 = .ok (.iload_n 3, 1) := by decide +kernel
theorem dX5_quarrels_81 : decode cX5_quarrels 81 = .ok (.iload 5, 2) := by decide +kernel
theorem dX5_quarrels_83 : decode cX5_quarrels 83 = .ok (.invokevirtual 96, 3) := by decide +kernel
theorem dX5_quarrels_86 : decode cX5_quarrels 86 = .ok (.ireturn, 1) := by decide +kernel
theorem dX5_quarrels_87 : decode cX5_quarrels 87 = .ok (.aload_n 0, 1) := by decide +kernel
theorem dX5_quarrels_88 : decode cX5_quarrels 88 = .ok (.iload 4, 2) := by decide +kernel
theorem dX5_quarrels_90 : decode cX5_quarrels 90 = .ok (.iload_n 2, 1) := by decide +kernel
theorem dX5_quarrels_91 : decode cX5_quarrels 91 = .ok (.invokevirtual 92, 3) := by decide +kernel
theorem dX5_quarrels_94 : decode cX5_quarrels 94 = .ok (.ifCond .eq 32, 3) := by decide +kernel
theorem dX5_quarrels_97 : decode cX5_quarrels 97 = .ok (.aload_n 0, 1) := by decide +kernel
theorem dX5_quarrels_98 : decode cX5_quarrels 98 = .ok (.iload_n 1, 1) := by decide +kernel
theorem dX5_quarrels_99 : decode cX5_quarrels 99 = .ok (.aload_n 0, 1) := by decide +kernel
theorem dX5_quarrels_100 : decode cX5_quarrels 100 = .ok (.getfield 7, 3) := by decide +kernel
theorem dX5_quarrels_103 : decode cX5_quarrels 103 = .ok (.iload_n 2, 1) := by decide +kernel
theorem dX5_quarrels_104 : decode cX5_quarrels 104 = .ok (.iaload, 1) := by decide +kernel
theorem dX5_quarrels_105 : decode cX5_quarrels 105 = .ok (.aload_n 0, 1) := by decide +kernel
theorem dX5_quarrels_106 : decode cX5_quarrels 106 = .ok (.getfield 7, 3) := by decide +kernel
theorem dX5_quarrels_109 : decode cX5_quarrels 109 = .ok (.iload 4, 2) := by decide +kernel
theorem dX5_quarrels_111 : decode cX5_quarrels 111 = .ok (.iaload, 1) := by decide +kernel
theorem dX5_quarrels_112 : decode cX5_quarrels 112 = .ok (.isub, 1) := by decide +kernel
theorem dX5_quarrels_113 : decode cX5_quarrels 113 = .ok (.iload 5, 2) := by decide +kernel
theorem dX5_quarrels_115 : decode cX5_quarrels 115 = .ok (.iload_n 3, 1) := by decide +kernel
theorem dX5_quarrels_116 : decode cX5_quarrels 116 = .ok (.invokevirtual 96, 3) := by decide +kernel
theorem dX5_quarrels_119 : decode cX5_quarrels 119 = .ok (.ifCond .eq 7, 3) := by decide +kernel
theorem dX5_quarrels_122 : decode cX5_quarrels 122 = .ok (.iconst 1, 1) := by decide +kernel
theorem dX5_quarrels_123 : decode cX5_quarrels 123 = .ok (.goto 4, 3) := by decide +kernel
theorem dX5_quarrels_126 : decode cX5_quarrels 126 = .ok (.iconst 0, 1) := by decide +kernel
theorem dX5_quarrels_127 : decode cX5_quarrels 127 = .ok (.ireturn, 1) := by decide +kernel
theorem dX5_breaks_0 : decode cX5_breaks 0 = .ok (.aload_n 0, 1) := by decide +kernel
theorem dX5_breaks_1 : decode cX5_breaks 1 = .ok (.getfield 19, 3) := by decide +kernel
theorem dX5_breaks_4 : decode cX5_breaks 4 = .ok (.iload_n 1, 1) := by decide +kernel
theorem dX5_breaks_5 : decode cX5_breaks 5 = .ok (.iaload, 1) := by decide +kernel
theorem dX5_breaks_6 : decode cX5_breaks 6 = .ok (.iconst 1, 1) := by decide +kernel
theorem dX5_breaks_7 : decode cX5_breaks 7 = .ok (.if_icmp .ne 15, 3) := by decide +kernel
theorem dX5_breaks_10 : decode cX5_breaks 10 = .ok (.iload 4, 2) := by decide +kernel
theorem dX5_breaks_12 : decode cX5_breaks 12 = .ok (.iload_n 3, 1) := by decide +kernel
theorem dX5_breaks_13 : decode cX5_breaks 13 = .ok (.if_icmp .le 7, 3) := by decide +kernel
theorem dX5_breaks_16 : decode cX5_breaks 16 = .ok (.iconst 1, 1) := by decide +kernel
theorem dX5_breaks_17 : decode cX5_breaks 17 = .ok (.goto 4, 3) := by decide +kernel
theorem dX5_breaks_20 : decode cX5_breaks 20 = .ok (.iconst 0, 1) := by decide +kernel
theorem dX5_breaks_21 : decode cX5_breaks 21 = .ok (.ireturn, 1) := by decide +kernel
theorem dX5_breaks_22 : decode cX5_breaks 22 = .ok (.aload_n 0, 1) := by decide +kernel
theorem dX5_breaks_23 : decode cX5_breaks 23 = .ok (.getfield 19, 3) := by decide +kernel
theorem dX5_breaks_26 : decode cX5_breaks 26 = .ok (.iload_n 1, 1) := by decide +kernel
theorem dX5_breaks_27 : decode cX5_breaks 27 = .ok (.iaload, 1) := by decide +kernel
theorem dX5_breaks_28 : decode cX5_breaks 28 = .ok (.iconst 2, 1) := by decide +kernel
theorem dX5_breaks_29 : decode cX5_breaks 29 = .ok (.if_icmp .ne 15, 3) := by decide +kernel
theorem dX5_breaks_32 : decode cX5_breaks 32 = .ok (.iload 4, 2) := by decide +kernel
theorem dX5_breaks_34 : decode cX5_breaks 34 = .ok (.iload_n 3, 1) := by decide +kernel
theorem dX5_breaks_35 : decode cX5_breaks 35 = .ok (.if_icmp .ge 7, 3) := by decide +kernel
theorem dX5_breaks_38 : decode cX5_breaks 38 = .ok (.iconst 1, 1) := by decide +kernel
theorem dX5_breaks_39 : decode cX5_breaks 39 = .ok (.goto 4, 3) := by decide +kernel
theorem dX5_breaks_42 : decode cX5_breaks 42 = .ok (.iconst 0, 1) := by decide +kernel
theorem dX5_breaks_43 : decode cX5_breaks 43 = .ok (.ireturn, 1) := by decide +kernel
theorem dX5_breaks_44 : decode cX5_breaks 44 = .ok (.iload_n 3, 1) := by decide +kernel
theorem dX5_breaks_45 : decode cX5_breaks 45 = .ok (.aload_n 0, 1) := by decide +kernel
theorem dX5_breaks_46 : decode cX5_breaks 46 = .ok (.getfield 22, 3) := by decide +kernel
theorem dX5_breaks_49 : decode cX5_breaks 49 = .ok (.iload_n 1, 1) := by decide +kernel
theorem dX5_breaks_50 : decode cX5_breaks 50 = .ok (.iaload, 1) := by decide +kernel
theorem dX5_breaks_51 : decode cX5_breaks 51 = .ok (.iload_n 2, 1) := by decide +kernel
theorem dX5_breaks_52 : decode cX5_breaks 52 = .ok (.imul, 1) := by decide +kernel
theorem dX5_breaks_53 : decode cX5_breaks 53 = .ok (.isub, 1) := by decide +kernel
theorem dX5_breaks_54 : decode cX5_breaks 54 = .ok (.istore 5, 2) := by decide +kernel
theorem dX5_breaks_56 : decode cX5_breaks 56 = .ok (.iload 4, 2) := by decide +kernel
theorem dX5_breaks_58 : decode cX5_breaks 58 = .ok (.iload 5, 2) := by decide +kernel
theorem dX5_breaks_60 : decode cX5_breaks 60 = .ok (.ifCond .ge 7, 3) := by decide +kernel
theorem dX5_breaks_63 : decode cX5_breaks 63 = .ok (.iconst 0, 1) := by decide +kernel
theorem dX5_breaks_64 : decode cX5_breaks 64 = .ok (.goto 5, 3) := by decide +kernel
theorem dX5_breaks_67 : decode cX5_breaks 67 = .ok (.iload 5, 2) := by decide +kernel
theorem dX5_breaks_69 : decode cX5_breaks 69 = .ok (.if_icmp .eq 7, 3) := by decide +kernel
theorem dX5_breaks_72 : decode cX5_breaks 72 = .ok (.iconst 1, 1) := by decide +kernel
theorem dX5_breaks_73 : decode cX5_breaks 73 = .ok (.goto 4, 3) := by decide +kernel
theorem dX5_breaks_76 : decode cX5_breaks 76 = .ok (.iconst 0, 1) := by decide +kernel
theorem dX5_breaks_77 : decode cX5_breaks 77 = .ok (.ireturn, 1) := by decide +kernel
theorem dX5_doClash_0 : decode cX5_doClash 0 = .ok (.aload_n 0, 1) := by decide +kernel
theorem dX5_doClash_1 : decode cX5_doClash 1 = .ok (.iload_n 3, 1) := by decide +kernel
theorem dX5_doClash_2 : decode cX5_doClash 2 = .ok (.aload_n 0, 1) := by decide +kernel
theorem dX5_doClash_3 : decode cX5_doClash 3 = .ok (.getfield 28, 3) := by decide +kernel
theorem dX5_doClash_6 : decode cX5_doClash 6 = .ok (.iload_n 1, 1) := by decide +kernel
theorem dX5_doClash_7 : decode cX5_doClash 7 = .ok (.iaload, 1) := by decide +kernel
theorem dX5_doClash_8 : decode cX5_doClash 8 = .ok (.aload_n 0, 1) := by decide +kernel
theorem dX5_doClash_9 : decode cX5_doClash 9 = .ok (.getfield 34, 3) := by decide +kernel
theorem dX5_doClash_12 : decode cX5_doClash 12 = .ok (.bipush 6, 2) := by decide +kernel
theorem dX5_doClash_14 : decode cX5_doClash 14 = .ok (.iload_n 1, 1) := by decide +kernel
theorem dX5_doClash_15 : decode cX5_doClash 15 = .ok (.imul, 1) := by decide +kernel
theorem dX5_doClash_16 : decode cX5_doClash 16 = .ok (.iload_n 3, 1) := by decide +kernel
theorem dX5_doClash_17 : decode cX5_doClash 17 = .ok (.iadd, 1) := by decide +kernel
theorem dX5_doClash_18 : decode cX5_doClash 18 = .ok (.iaload, 1) := by decide +kernel
theorem dX5_doClash_19 : decode cX5_doClash 19 = .ok (.aload_n 0, 1) := by decide +kernel
theorem dX5_doClash_20 : decode cX5_doClash 20 = .ok (.getfield 28, 3) := by decide +kernel
theorem dX5_doClash_23 : decode cX5_doClash 23 = .ok (.iload_n 2, 1) := by decide +kernel
theorem dX5_doClash_24 : decode cX5_doClash 24 = .ok (.iaload, 1) := by decide +kernel
theorem dX5_doClash_25 : decode cX5_doClash 25 = .ok (.aload_n 0, 1) := by decide +kernel
theorem dX5_doClash_26 : decode cX5_doClash 26 = .ok (.getfield 34, 3) := by decide +kernel
theorem dX5_doClash_29 : decode cX5_doClash 29 = .ok (.bipush 6, 2) := by decide +kernel
theorem dX5_doClash_31 : decode cX5_doClash 31 = .ok (.iload_n 2, 1) := by decide +kernel
theorem dX5_doClash_32 : decode cX5_doClash 32 = .ok (.imul, 1) := by decide +kernel
theorem dX5_doClash_33 : decode cX5_doClash 33 = .ok (.iload_n 3, 1) := by decide +kernel
theorem dX5_doClash_34 : decode cX5_doClash 34 = .ok (.iadd, 1) := by decide +kernel
theorem dX5_doClash_35 : decode cX5_doClash 35 = .ok (.iaload, 1) := by decide +kernel
theorem dX5_doClash_36 : decode cX5_doClash 36 = .ok (.invokevirtual 100, 3) := by decide +kernel
theorem dX5_doClash_39 : decode cX5_doClash 39 = .ok (.ireturn, 1) := by decide +kernel
theorem dX5_clash_0 : decode cX5_clash 0 = .ok (.aload_n 0, 1) := by decide +kernel
theorem dX5_clash_1 : decode cX5_clash 1 = .ok (.iload_n 1, 1) := by decide +kernel
theorem dX5_clash_2 : decode cX5_clash 2 = .ok (.invokevirtual 89, 3) := by decide +kernel
theorem dX5_clash_5 : decode cX5_clash 5 = .ok (.ifCond .eq 19, 3) := by decide +kernel
theorem dX5_clash_8 : decode cX5_clash 8 = .ok (.aload_n 0, 1) := by decide +kernel
theorem dX5_clash_9 : decode cX5_clash 9 = .ok (.iload_n 2, 1) := by decide +kernel
theorem dX5_clash_10 : decode cX5_clash 10 = .ok (.invokevirtual 89, 3) := by decide +kernel
theorem dX5_clash_13 : decode cX5_clash 13 = .ok (.ifCond .eq 11, 3) := by decide +kernel
theorem dX5_clash_16 : decode cX5_clash 16 = .ok (.aload_n 0, 1) := by decide +kernel
theorem dX5_clash_17 : decode cX5_clash 17 = .ok (.iload_n 3, 1) := by decide +kernel
theorem dX5_clash_18 : decode cX5_clash 18 = .ok (.invokevirtual 82, 3) := by decide +kernel
theorem dX5_clash_21 : decode cX5_clash 21 = .ok (.ifCond .ne 5, 3) := by decide +kernel
theorem dX5_clash_24 : decode cX5_clash 24 = .ok (.iconst (-1), 1) := by decide +kernel
theorem dX5_clash_25 : decode cX5_clash 25 = .ok (.ireturn, 1) := by decide +kernel
theorem dX5_clash_26 : decode cX5_clash 26 = .ok (.aload_n 0, 1) := by decide +kernel
theorem dX5_clash_27 : decode cX5_clash 27 = .ok (.iload_n 1, 1) := by decide +kernel
theorem dX5_clash_28 : decode cX5_clash 28 = .ok (.iload_n 2, 1) := by decide +kernel
theorem dX5_clash_29 : decode cX5_clash 29 = .ok (.iload_n 3, 1) := by decide +kernel
theorem dX5_clash_30 : decode cX5_clash 30 = .ok (.invokevirtual 104, 3) := by decide +kernel
theorem dX5_clash_33 : decode cX5_clash 33 = .ok (.ifCond .eq 7, 3) := by decide +kernel
theorem dX5_clash_36 : decode cX5_clash 36 = .ok (.iconst 1, 1) := by decide +kernel
theorem dX5_clash_37 : decode cX5_clash 37 = .ok (.goto 4, 3) := by decide +kernel
theorem dX5_clash_40 : decode cX5_clash 40 = .ok (.iconst 0, 1) := by decide +kernel
theorem dX5_clash_41 : decode cX5_clash 41 = .ok (.ireturn, 1) := by decide +kernel
theorem dX5_noiseOf_0 : decode cX5_noiseOf 0 = .ok (.iconst 0, 1) := by decide +kernel
theorem dX5_noiseOf_1 : decode cX5_noiseOf 1 = .ok (.istore_n 3, 1) := by decide +kernel
theorem dX5_noiseOf_2 : decode cX5_noiseOf 2 = .ok (.iconst 0, 1) := by decide +kernel
theorem dX5_noiseOf_3 : decode cX5_noiseOf 3 = .ok (.istore 4, 2) := by decide +kernel
theorem dX5_noiseOf_5 : decode cX5_noiseOf 5 = .ok (.iload 4, 2) := by decide +kernel
theorem dX5_noiseOf_7 : decode cX5_noiseOf 7 = .ok (.aload_n 0, 1) := by decide +kernel
theorem dX5_noiseOf_8 : decode cX5_noiseOf 8 = .ok (.getfield 72, 3) := by decide +kernel
theorem dX5_noiseOf_11 : decode cX5_noiseOf 11 = .ok (.if_icmp .ge 34, 3) := by decide +kernel
theorem dX5_noiseOf_14 : decode cX5_noiseOf 14 = .ok (.iload_n 3, 1) := by decide +kernel
theorem dX5_noiseOf_15 : decode cX5_noiseOf 15 = .ok (.aload_n 0, 1) := by decide +kernel
theorem dX5_noiseOf_16 : decode cX5_noiseOf 16 = .ok (.iload_n 1, 1) := by decide +kernel
theorem dX5_noiseOf_17 : decode cX5_noiseOf 17 = .ok (.iload_n 2, 1) := by decide +kernel
theorem dX5_noiseOf_18 : decode cX5_noiseOf 18 = .ok (.iload 4, 2) := by decide +kernel
theorem dX5_noiseOf_20 : decode cX5_noiseOf 20 = .ok (.invokevirtual 104, 3) := by decide +kernel
theorem dX5_noiseOf_23 : decode cX5_noiseOf 23 = .ok (.ifCond .eq 13, 3) := by decide +kernel
theorem dX5_noiseOf_26 : decode cX5_noiseOf 26 = .ok (.aload_n 0, 1) := by decide +kernel
theorem dX5_noiseOf_27 : decode cX5_noiseOf 27 = .ok (.getfield 25, 3) := by decide +kernel
theorem dX5_noiseOf_30 : decode cX5_noiseOf 30 = .ok (.iload 4, 2) := by decide +kernel
theorem dX5_noiseOf_32 : decode cX5_noiseOf 32 = .ok (.iaload, 1) := by decide +kernel
theorem dX5_noiseOf_33 : decode cX5_noiseOf 33 = .ok (.goto 4, 3) := by decide +kernel
theorem dX5_noiseOf_36 : decode cX5_noiseOf 36 = .ok (.iconst 0, 1) := by decide +kernel
theorem dX5_noiseOf_37 : decode cX5_noiseOf 37 = .ok (.iadd, 1) := by decide +kernel
theorem dX5_noiseOf_38 : decode cX5_noiseOf 38 = .ok (.istore_n 3, 1) := by decide +kernel
theorem dX5_noiseOf_39 : decode cX5_noiseOf 39 = .ok (.iinc 4 1, 3) := by decide +kernel
theorem dX5_noiseOf_42 : decode cX5_noiseOf 42 = .ok (.goto (-37), 3) := by decide +kernel
theorem dX5_noiseOf_45 : decode cX5_noiseOf 45 = .ok (.iload_n 3, 1) := by decide +kernel
theorem dX5_noiseOf_46 : decode cX5_noiseOf 46 = .ok (.ireturn, 1) := by decide +kernel
theorem dX5_noise_0 : decode cX5_noise 0 = .ok (.aload_n 0, 1) := by decide +kernel
theorem dX5_noise_1 : decode cX5_noise 1 = .ok (.iload_n 1, 1) := by decide +kernel
theorem dX5_noise_2 : decode cX5_noise 2 = .ok (.invokevirtual 89, 3) := by decide +kernel
theorem dX5_noise_5 : decode cX5_noise 5 = .ok (.ifCond .eq 20, 3) := by decide +kernel
theorem dX5_noise_8 : decode cX5_noise 8 = .ok (.aload_n 0, 1) := by decide +kernel
theorem dX5_noise_9 : decode cX5_noise 9 = .ok (.iload_n 2, 1) := by decide +kernel
theorem dX5_noise_10 : decode cX5_noise 10 = .ok (.invokevirtual 89, 3) := by decide +kernel
theorem dX5_noise_13 : decode cX5_noise 13 = .ok (.ifCond .eq 12, 3) := by decide +kernel
theorem dX5_noise_16 : decode cX5_noise 16 = .ok (.aload_n 0, 1) := by decide +kernel
theorem dX5_noise_17 : decode cX5_noise 17 = .ok (.iload_n 1, 1) := by decide +kernel
theorem dX5_noise_18 : decode cX5_noise 18 = .ok (.iload_n 2, 1) := by decide +kernel
theorem dX5_noise_19 : decode cX5_noise 19 = .ok (.invokevirtual 107, 3) := by decide +kernel
theorem dX5_noise_22 : decode cX5_noise 22 = .ok (.goto 4, 3) := by decide +kernel
theorem dX5_noise_25 : decode cX5_noise 25 = .ok (.iconst (-1), 1) := by decide +kernel
theorem dX5_noise_26 : decode cX5_noise 26 = .ok (.ireturn, 1) := by decide +kernel
theorem dX5_costOf_0 : decode cX5_costOf 0 = .ok (.iconst 0, 1) := by decide +kernel
theorem dX5_costOf_1 : decode cX5_costOf 1 = .ok (.istore_n 2, 1) := by decide +kernel
theorem dX5_costOf_2 : decode cX5_costOf 2 = .ok (.iconst 0, 1) := by decide +kernel
theorem dX5_costOf_3 : decode cX5_costOf 3 = .ok (.istore_n 3, 1) := by decide +kernel
theorem dX5_costOf_4 : decode cX5_costOf 4 = .ok (.iload_n 3, 1) := by decide +kernel
theorem dX5_costOf_5 : decode cX5_costOf 5 = .ok (.aload_n 0, 1) := by decide +kernel
theorem dX5_costOf_6 : decode cX5_costOf 6 = .ok (.getfield 64, 3) := by decide +kernel
theorem dX5_costOf_9 : decode cX5_costOf 9 = .ok (.if_icmp .ge 81, 3) := by decide +kernel
theorem dX5_costOf_12 : decode cX5_costOf 12 = .ok (.iconst 0, 1) := by decide +kernel
theorem dX5_costOf_13 : decode cX5_costOf 13 = .ok (.istore 4, 2) := by decide +kernel
theorem dX5_costOf_15 : decode cX5_costOf 15 = .ok (.iload 4, 2) := by decide +kernel
theorem dX5_costOf_17 : decode cX5_costOf 17 = .ok (.iload_n 3, 1) := by decide +kernel
theorem dX5_costOf_18 : decode cX5_costOf 18 = .ok (.if_icmp .ge 45, 3) := by decide +kernel
theorem dX5_costOf_21 : decode cX5_costOf 21 = .ok (.aload_n 1, 1) := by decide +kernel
theorem dX5_costOf_22 : decode cX5_costOf 22 = .ok (.iload_n 3, 1) := by decide +kernel
theorem dX5_costOf_23 : decode cX5_costOf 23 = .ok (.iaload, 1) := by decide +kernel
theorem dX5_costOf_24 : decode cX5_costOf 24 = .ok (.ifCond .lt 39, 3) := by decide +kernel
theorem dX5_costOf_27 : decode cX5_costOf 27 = .ok (.iload_n 2, 1) := by decide +kernel
theorem dX5_costOf_28 : decode cX5_costOf 28 = .ok (.aload_n 1, 1) := by decide +kernel
theorem dX5_costOf_29 : decode cX5_costOf 29 = .ok (.iload 4, 2) := by decide +kernel
theorem dX5_costOf_31 : decode cX5_costOf 31 = .ok (.iaload, 1) := by decide +kernel
theorem dX5_costOf_32 : decode cX5_costOf 32 = .ok (.ifCond .ge 7, 3) := by decide +kernel
theorem dX5_costOf_35 : decode cX5_costOf 35 = .ok (.iconst 0, 1) := by decide +kernel
theorem dX5_costOf_36 : decode cX5_costOf 36 = .ok (.goto 19, 3) := by decide +kernel
theorem dX5_costOf_39 : decode cX5_costOf 39 = .ok (.aload_n 0, 1) := by decide +kernel
theorem dX5_costOf_40 : decode cX5_costOf 40 = .ok (.getfield 52, 3) := by decide +kernel
theorem dX5_costOf_43 : decode cX5_costOf 43 = .ok (.bipush 16, 2) := by decide +kernel
theorem dX5_costOf_45 : decode cX5_costOf 45 = .ok (.aload_n 1, 1) := by decide +kernel
theorem dX5_costOf_46 : decode cX5_costOf 46 = .ok (.iload_n 3, 1) := by decide +kernel
theorem dX5_costOf_47 : decode cX5_costOf 47 = .ok (.iaload, 1) := by decide +kernel
theorem dX5_costOf_48 : decode cX5_costOf 48 = .ok (.imul, 1) := by decide +kernel
theorem dX5_costOf_49 : decode cX5_costOf 49 = .ok (.aload_n 1, 1) := by decide +kernel
theorem dX5_costOf_50 : decode cX5_costOf 50 = .ok (.iload 4, 2) := by decide +kernel
theorem dX5_costOf_52 : decode cX5_costOf 52 = .ok (.iaload, 1) := by decide +kernel
theorem dX5_costOf_53 : decode cX5_costOf 53 = .ok (.iadd, 1) := by decide +kernel
theorem dX5_costOf_54 : decode cX5_costOf 54 = .ok (.iaload, 1) := by decide +kernel
theorem dX5_costOf_55 : decode cX5_costOf 55 = .ok (.iadd, 1) := by decide +kernel
theorem dX5_costOf_56 : decode cX5_costOf 56 = .ok (.istore_n 2, 1) := by decide +kernel
theorem dX5_costOf_57 : decode cX5_costOf 57 = .ok (.iinc 4 1, 3) := by decide +kernel
theorem dX5_costOf_60 : decode cX5_costOf 60 = .ok (.goto (-45), 3) := by decide +kernel
theorem dX5_costOf_63 : decode cX5_costOf 63 = .ok (.iload_n 2, 1) := by decide +kernel
theorem dX5_costOf_64 : decode cX5_costOf 64 = .ok (.aload_n 1, 1) := by decide +kernel
theorem dX5_costOf_65 : decode cX5_costOf 65 = .ok (.iload_n 3, 1) := by decide +kernel
theorem dX5_costOf_66 : decode cX5_costOf 66 = .ok (.iaload, 1) := by decide +kernel
theorem dX5_costOf_67 : decode cX5_costOf 67 = .ok (.ifCond .ge 7, 3) := by decide +kernel
theorem dX5_costOf_70 : decode cX5_costOf 70 = .ok (.iconst 0, 1) := by decide +kernel
theorem dX5_costOf_71 : decode cX5_costOf 71 = .ok (.goto 11, 3) := by decide +kernel
theorem dX5_costOf_74 : decode cX5_costOf 74 = .ok (.aload_n 0, 1) := by decide +kernel
theorem dX5_costOf_75 : decode cX5_costOf 75 = .ok (.getfield 31, 3) := by decide +kernel
theorem dX5_costOf_78 : decode cX5_costOf 78 = .ok (.aload_n 1, 1) := by decide +kernel
theorem dX5_costOf_79 : decode cX5_costOf 79 = .ok (.iload_n 3, 1) := by decide +kernel
theorem dX5_costOf_80 : decode cX5_costOf 80 = .ok (.iaload, 1) := by decide +kernel
theorem dX5_costOf_81 : decode cX5_costOf 81 = .ok (.iaload, 1) := by decide +kernel
theorem dX5_costOf_82 : decode cX5_costOf 82 = .ok (.iadd, 1) := by decide +kernel
theorem dX5_costOf_83 : decode cX5_costOf 83 = .ok (.istore_n 2, 1) := by decide +kernel
theorem dX5_costOf_84 : decode cX5_costOf 84 = .ok (.iinc 3 1, 3) := by decide +kernel
theorem dX5_costOf_87 : decode cX5_costOf 87 = .ok (.goto (-83), 3) := by decide +kernel
theorem dX5_costOf_90 : decode cX5_costOf 90 = .ok (.iload_n 2, 1) := by decide +kernel
theorem dX5_costOf_91 : decode cX5_costOf 91 = .ok (.ireturn, 1) := by decide +kernel
theorem dX5_findNoises_0 : decode cX5_findNoises 0 = .ok (.iconst 0, 1) := by decide +kernel
theorem dX5_findNoises_1 : decode cX5_findNoises 1 = .ok (.istore_n 1, 1) := by decide +kernel
theorem dX5_findNoises_2 : decode cX5_findNoises 2 = .ok (.iload_n 1, 1) := by decide +kernel
theorem dX5_findNoises_3 : decode cX5_findNoises 3 = .ok (.aload_n 0, 1) := by decide +kernel
theorem dX5_findNoises_4 : decode cX5_findNoises 4 = .ok (.getfield 75, 3) := by decide +kernel
theorem dX5_findNoises_7 : decode cX5_findNoises 7 = .ok (.if_icmp .ge 42, 3) := by decide +kernel
theorem dX5_findNoises_10 : decode cX5_findNoises 10 = .ok (.iconst 0, 1) := by decide +kernel
theorem dX5_findNoises_11 : decode cX5_findNoises 11 = .ok (.istore_n 2, 1) := by decide +kernel
theorem dX5_findNoises_12 : decode cX5_findNoises 12 = .ok (.iload_n 2, 1) := by decide +kernel
theorem dX5_findNoises_13 : decode cX5_findNoises 13 = .ok (.aload_n 0, 1) := by decide +kernel
theorem dX5_findNoises_14 : decode cX5_findNoises 14 = .ok (.getfield 75, 3) := by decide +kernel
theorem dX5_findNoises_17 : decode cX5_findNoises 17 = .ok (.if_icmp .ge 26, 3) := by decide +kernel
theorem dX5_findNoises_20 : decode cX5_findNoises 20 = .ok (.aload_n 0, 1) := by decide +kernel
theorem dX5_findNoises_21 : decode cX5_findNoises 21 = .ok (.getfield 52, 3) := by decide +kernel
theorem dX5_findNoises_24 : decode cX5_findNoises 24 = .ok (.bipush 16, 2) := by decide +kernel
theorem dX5_findNoises_26 : decode cX5_findNoises 26 = .ok (.iload_n 1, 1) := by decide +kernel
theorem dX5_findNoises_27 : decode cX5_findNoises 27 = .ok (.imul, 1) := by decide +kernel
theorem dX5_findNoises_28 : decode cX5_findNoises 28 = .ok (.iload_n 2, 1) := by decide +kernel
theorem dX5_findNoises_29 : decode cX5_findNoises 29 = .ok (.iadd, 1) := by decide +kernel
theorem dX5_findNoises_30 : decode cX5_findNoises 30 = .ok (.aload_n 0, 1) := by decide +kernel
theorem dX5_findNoises_31 : decode cX5_findNoises 31 = .ok (.iload_n 1, 1) := by decide +kernel
theorem dX5_findNoises_32 : decode cX5_findNoises 32 = .ok (.iload_n 2, 1) := by decide +kernel
theorem dX5_findNoises_33 : decode cX5_findNoises 33 = .ok (.invokevirtual 107, 3) := by decide +kernel
theorem dX5_findNoises_36 : decode cX5_findNoises 36 = .ok (.iastore, 1) := by decide +kernel
theorem dX5_findNoises_37 : decode cX5_findNoises 37 = .ok (.iinc 2 1, 3) := by decide +kernel
theorem dX5_findNoises_40 : decode cX5_findNoises 40 = .ok (.goto (-28), 3) := by decide +kernel
theorem dX5_findNoises_43 : decode cX5_findNoises 43 = .ok (.iinc 1 1, 3) := by decide +kernel
theorem dX5_findNoises_46 : decode cX5_findNoises 46 = .ok (.goto (-44), 3) := by decide +kernel
theorem dX5_findNoises_49 : decode cX5_findNoises 49 = .ok (.return_, 1) := by decide +kernel
theorem dX5_nextTake_0 : decode cX5_nextTake 0 = .ok (.iload_n 2, 1) := by decide +kernel
theorem dX5_nextTake_1 : decode cX5_nextTake 1 = .ok (.iconst 1, 1) := by decide +kernel
theorem dX5_nextTake_2 : decode cX5_nextTake 2 = .ok (.iadd, 1) := by decide +kernel
theorem dX5_nextTake_3 : decode cX5_nextTake 3 = .ok (.istore_n 3, 1) := by decide +kernel
theorem dX5_nextTake_4 : decode cX5_nextTake 4 = .ok (.iload_n 3, 1) := by decide +kernel
theorem dX5_nextTake_5 : decode cX5_nextTake 5 = .ok (.aload_n 0, 1) := by decide +kernel
theorem dX5_nextTake_6 : decode cX5_nextTake 6 = .ok (.getfield 75, 3) := by decide +kernel
theorem dX5_nextTake_9 : decode cX5_nextTake 9 = .ok (.if_icmp .ge 21, 3) := by decide +kernel
theorem dX5_nextTake_12 : decode cX5_nextTake 12 = .ok (.aload_n 0, 1) := by decide +kernel
theorem dX5_nextTake_13 : decode cX5_nextTake 13 = .ok (.getfield 28, 3) := by decide +kernel
theorem dX5_nextTake_16 : decode cX5_nextTake 16 = .ok (.iload_n 3, 1) := by decide +kernel
theorem dX5_nextTake_17 : decode cX5_nextTake 17 = .ok (.iaload, 1) := by decide +kernel
theorem dX5_nextTake_18 : decode cX5_nextTake 18 = .ok (.iload_n 1, 1) := by decide +kernel
theorem dX5_nextTake_19 : decode cX5_nextTake 19 = .ok (.if_icmp .ne 5, 3) := by decide +kernel
theorem dX5_nextTake_22 : decode cX5_nextTake 22 = .ok (.iload_n 3, 1) := by decide +kernel
theorem dX5_nextTake_23 : decode cX5_nextTake 23 = .ok (.ireturn, 1) := by decide +kernel
theorem dX5_nextTake_24 : decode cX5_nextTake 24 = .ok (.iinc 3 1, 3) := by decide +kernel
theorem dX5_nextTake_27 : decode cX5_nextTake 27 = .ok (.goto (-23), 3) := by decide +kernel
theorem dX5_nextTake_30 : decode cX5_nextTake 30 = .ok (.iconst (-1), 1) := by decide +kernel
theorem dX5_nextTake_31 : decode cX5_nextTake 31 = .ok (.ireturn, 1) := by decide +kernel
theorem dX5_findCut_0 : decode cX5_findCut 0 = .ok (.aload_n 0, 1) := by decide +kernel
theorem dX5_findCut_1 : decode cX5_findCut 1 = .ok (.invokevirtual 111, 3) := by decide +kernel
theorem dX5_findCut_4 : decode cX5_findCut 4 = .ok (.iconst 0, 1) := by decide +kernel
theorem dX5_findCut_5 : decode cX5_findCut 5 = .ok (.istore_n 1, 1) := by decide +kernel
theorem dX5_findCut_6 : decode cX5_findCut 6 = .ok (.iload_n 1, 1) := by decide +kernel
theorem dX5_findCut_7 : decode cX5_findCut 7 = .ok (.aload_n 0, 1) := by decide +kernel
theorem dX5_findCut_8 : decode cX5_findCut 8 = .ok (.getfield 64, 3) := by decide +kernel
theorem dX5_findCut_11 : decode cX5_findCut 11 = .ok (.if_icmp .ge 21, 3) := by decide +kernel
theorem dX5_findCut_14 : decode cX5_findCut 14 = .ok (.aload_n 0, 1) := by decide +kernel
theorem dX5_findCut_15 : decode cX5_findCut 15 = .ok (.getfield 46, 3) := by decide +kernel
theorem dX5_findCut_18 : decode cX5_findCut 18 = .ok (.iload_n 1, 1) := by decide +kernel
theorem dX5_findCut_19 : decode cX5_findCut 19 = .ok (.aload_n 0, 1) := by decide +kernel
theorem dX5_findCut_20 : decode cX5_findCut 20 = .ok (.iload_n 1, 1) := by decide +kernel
theorem dX5_findCut_21 : decode cX5_findCut 21 = .ok (.iconst (-1), 1) := by decide +kernel
theorem dX5_findCut_22 : decode cX5_findCut 22 = .ok (.invokevirtual 114, 3) := by decide +kernel
theorem dX5_findCut_25 : decode cX5_findCut 25 = .ok (.iastore, 1) := by decide +kernel
theorem dX5_findCut_26 : decode cX5_findCut 26 = .ok (.iinc 1 1, 3) := by decide +kernel
theorem dX5_findCut_29 : decode cX5_findCut 29 = .ok (.goto (-23), 3) := by decide +kernel
theorem dX5_findCut_32 : decode cX5_findCut 32 = .ok (.aload_n 0, 1) := by decide +kernel
theorem dX5_findCut_33 : decode cX5_findCut 33 = .ok (.iconst (-1), 1) := by decide +kernel
theorem dX5_findCut_34 : decode cX5_findCut 34 = .ok (.putfield 117, 3) := by decide +kernel
theorem dX5_findCut_37 : decode cX5_findCut 37 = .ok (.iconst 1, 1) := by decide +kernel
theorem dX5_findCut_38 : decode cX5_findCut 38 = .ok (.istore_n 1, 1) := by decide +kernel
theorem dX5_findCut_39 : decode cX5_findCut 39 = .ok (.iload_n 1, 1) := by decide +kernel
theorem dX5_findCut_40 : decode cX5_findCut 40 = .ok (.ifCond .eq 146, 3) := by decide +kernel
theorem dX5_findCut_43 : decode cX5_findCut 43 = .ok (.aload_n 0, 1) := by decide +kernel
theorem dX5_findCut_44 : decode cX5_findCut 44 = .ok (.aload_n 0, 1) := by decide +kernel
theorem dX5_findCut_45 : decode cX5_findCut 45 = .ok (.getfield 46, 3) := by decide +kernel
theorem dX5_findCut_48 : decode cX5_findCut 48 = .ok (.invokevirtual 120, 3) := by decide +kernel
theorem dX5_findCut_51 : decode cX5_findCut 51 = .ok (.istore_n 2, 1) := by decide +kernel
theorem dX5_findCut_52 : decode cX5_findCut 52 = .ok (.aload_n 0, 1) := by decide +kernel
theorem dX5_findCut_53 : decode cX5_findCut 53 = .ok (.getfield 117, 3) := by decide +kernel
theorem dX5_findCut_56 : decode cX5_findCut 56 = .ok (.ifCond .lt 11, 3) := by decide +kernel
theorem dX5_findCut_59 : decode cX5_findCut 59 = .ok (.iload_n 2, 1) := by decide +kernel
theorem dX5_findCut_60 : decode cX5_findCut 60 = .ok (.aload_n 0, 1) := by decide +kernel
theorem dX5_findCut_61 : decode cX5_findCut 61 = .ok (.getfield 117, 3) := by decide +kernel
theorem dX5_findCut_64 : decode cX5_findCut 64 = .ok (.if_icmp .ge 36, 3) := by decide +kernel
theorem dX5_findCut_67 : decode cX5_findCut 67 = .ok (.aload_n 0, 1) := by decide +kernel
theorem dX5_findCut_68 : decode cX5_findCut 68 = .ok (.iload_n 2, 1) := by decide +kernel
theorem dX5_findCut_69 : decode cX5_findCut 69 = .ok (.putfield 117, 3) := by decide +kernel
theorem dX5_findCut_72 : decode cX5_findCut 72 = .ok (.iconst 0, 1) := by decide +kernel
theorem dX5_findCut_73 : decode cX5_findCut 73 = .ok (.istore_n 3, 1) := by decide +kernel
theorem dX5_findCut_74 : decode cX5_findCut 74 = .ok (.iload_n 3, 1) := by decide +kernel
theorem dX5_findCut_75 : decode cX5_findCut 75 = .ok (.aload_n 0, 1) := by decide +kernel
theorem dX5_findCut_76 : decode cX5_findCut 76 = .ok (.getfield 64, 3) := by decide +kernel
theorem dX5_findCut_79 : decode cX5_findCut 79 = .ok (.if_icmp .ge 21, 3) := by decide +kernel
theorem dX5_findCut_82 : decode cX5_findCut 82 = .ok (.aload_n 0, 1) := by decide +kernel
theorem dX5_findCut_83 : decode cX5_findCut 83 = .ok (.getfield 49, 3) := by decide +kernel
theorem dX5_findCut_86 : decode cX5_findCut 86 = .ok (.iload_n 3, 1) := by decide +kernel
theorem dX5_findCut_87 : decode cX5_findCut 87 = .ok (.aload_n 0, 1) := by decide +kernel
theorem dX5_findCut_88 : decode cX5_findCut 88 = .ok (.getfield 46, 3) := by decide +kernel
theorem dX5_findCut_91 : decode cX5_findCut 91 = .ok (.iload_n 3, 1) := by decide +kernel
theorem dX5_findCut_92 : decode cX5_findCut 92 = .ok (.iaload, 1) := by decide +kernel
theorem dX5_findCut_93 : decode cX5_findCut 93 = .ok (.iastore, 1) := by decide +kernel
theorem dX5_findCut_94 : decode cX5_findCut 94 = .ok (.iinc 3 1, 3) := by decide +kernel
theorem dX5_findCut_97 : decode cX5_findCut 97 = .ok (.goto (-23), 3) := by decide +kernel
theorem dX5_findCut_100 : decode cX5_findCut 100 = .ok (.aload_n 0, 1) := by decide +kernel
theorem dX5_findCut_101 : decode cX5_findCut 101 = .ok (.getfield 64, 3) := by decide +kernel
theorem dX5_findCut_104 : decode cX5_findCut 104 = .ok (.iconst 1, 1) := by decide +kernel
theorem dX5_findCut_105 : decode cX5_findCut 105 = .ok (.isub, 1) := by decide +kernel
theorem dX5_findCut_106 : decode cX5_findCut 106 = .ok (.istore_n 3, 1) := by decide +kernel
theorem dX5_findCut_107 : decode cX5_findCut 107 = .ok (.iload_n 3, 1) := by decide +kernel
theorem dX5_findCut_108 : decode cX5_findCut 108 = .ok (.ifCond .lt 44, 3) := by decide +kernel
theorem dX5_findCut_111 : decode cX5_findCut 111 = .ok (.aload_n 0, 1) := by decide +kernel
theorem dX5_findCut_112 : decode cX5_findCut 112 = .ok (.getfield 46, 3) := by decide +kernel
theorem dX5_findCut_115 : decode cX5_findCut 115 = .ok (.iload_n 3, 1) := by decide +kernel
theorem dX5_findCut_116 : decode cX5_findCut 116 = .ok (.iaload, 1) := by decide +kernel
theorem dX5_findCut_117 : decode cX5_findCut 117 = .ok (.ifCond .lt 17, 3) := by decide +kernel
theorem dX5_findCut_120 : decode cX5_findCut 120 = .ok (.aload_n 0, 1) := by decide +kernel
theorem dX5_findCut_121 : decode cX5_findCut 121 = .ok (.iload_n 3, 1) := by decide +kernel
theorem dX5_findCut_122 : decode cX5_findCut 122 = .ok (.aload_n 0, 1) := by decide +kernel
theorem dX5_findCut_123 : decode cX5_findCut 123 = .ok (.getfield 46, 3) := by decide +kernel
theorem dX5_findCut_126 : decode cX5_findCut 126 = .ok (.iload_n 3, 1) := by decide +kernel
theorem dX5_findCut_127 : decode cX5_findCut 127 = .ok (.iaload, 1) := by decide +kernel
theorem dX5_findCut_128 : decode cX5_findCut 128 = .ok (.invokevirtual 114, 3) := by decide +kernel
theorem dX5_findCut_131 : decode cX5_findCut 131 = .ok (.ifCond .ge 21, 3) := by decide +kernel
theorem dX5_findCut_134 : decode cX5_findCut 134 = .ok (.aload_n 0, 1) := by decide +kernel
theorem dX5_findCut_135 : decode cX5_findCut 135 = .ok (.getfield 46, 3) := by decide +kernel
theorem dX5_findCut_138 : decode cX5_findCut 138 = .ok (.iload_n 3, 1) := by decide +kernel
theorem dX5_findCut_139 : decode cX5_findCut 139 = .ok (.aload_n 0, 1) := by decide +kernel
theorem dX5_findCut_140 : decode cX5_findCut 140 = .ok (.iload_n 3, 1) := by decide +kernel
theorem dX5_findCut_141 : decode cX5_findCut 141 = .ok (.iconst (-1), 1) := by decide +kernel
theorem dX5_findCut_142 : decode cX5_findCut 142 = .ok (.invokevirtual 114, 3) := by decide +kernel
theorem dX5_findCut_145 : decode cX5_findCut 145 = .ok (.iastore, 1) := by decide +kernel
theorem dX5_findCut_146 : decode cX5_findCut 146 = .ok (.iinc 3 (-1), 3) := by decide +kernel
theorem dX5_findCut_149 : decode cX5_findCut 149 = .ok (.goto (-42), 3) := by decide +kernel
theorem dX5_findCut_152 : decode cX5_findCut 152 = .ok (.iload_n 3, 1) := by decide +kernel
theorem dX5_findCut_153 : decode cX5_findCut 153 = .ok (.ifCond .lt 7, 3) := by decide +kernel
theorem dX5_findCut_156 : decode cX5_findCut 156 = .ok (.iconst 1, 1) := by decide +kernel
theorem dX5_findCut_157 : decode cX5_findCut 157 = .ok (.goto 4, 3) := by decide +kernel
theorem dX5_findCut_160 : decode cX5_findCut 160 = .ok (.iconst 0, 1) := by decide +kernel
theorem dX5_findCut_161 : decode cX5_findCut 161 = .ok (.istore_n 1, 1) := by decide +kernel
theorem dX5_findCut_162 : decode cX5_findCut 162 = .ok (.iload_n 1, 1) := by decide +kernel
theorem dX5_findCut_163 : decode cX5_findCut 163 = .ok (.ifCond .eq 20, 3) := by decide +kernel
theorem dX5_findCut_166 : decode cX5_findCut 166 = .ok (.aload_n 0, 1) := by decide +kernel
theorem dX5_findCut_167 : decode cX5_findCut 167 = .ok (.getfield 46, 3) := by decide +kernel
theorem dX5_findCut_170 : decode cX5_findCut 170 = .ok (.iload_n 3, 1) := by decide +kernel
theorem dX5_findCut_171 : decode cX5_findCut 171 = .ok (.aload_n 0, 1) := by decide +kernel
theorem dX5_findCut_172 : decode cX5_findCut 172 = .ok (.iload_n 3, 1) := by decide +kernel
theorem dX5_findCut_173 : decode cX5_findCut 173 = .ok (.aload_n 0, 1) := by decide +kernel
theorem dX5_findCut_174 : decode cX5_findCut 174 = .ok (.getfield 46, 3) := by decide +kernel
theorem dX5_findCut_177 : decode cX5_findCut 177 = .ok (.iload_n 3, 1) := by decide +kernel
end
section
theorem dX5_findCut_178 : decode cX5_findCut 178 = .ok (.iaload, 1) := by decide +kernel
theorem dX5_findCut_179 : decode cX5_findCut 179 = .ok (.invokevirtual 114, 3) := by decide +kernel
theorem dX5_findCut_182 : decode cX5_findCut 182 = .ok (.iastore, 1) := by decide +kernel
theorem dX5_findCut_183 : decode cX5_findCut 183 = .ok (.goto (-144), 3) := by decide +kernel
theorem dX5_findCut_186 : decode cX5_findCut 186 = .ok (.return_, 1) := by decide +kernel
theorem dX5_cost_0 : decode cX5_cost 0 = .ok (.aload_n 0, 1) := by decide +kernel
theorem dX5_cost_1 : decode cX5_cost 1 = .ok (.invokevirtual 124, 3) := by decide +kernel
theorem dX5_cost_4 : decode cX5_cost 4 = .ok (.aload_n 0, 1) := by decide +kernel
theorem dX5_cost_5 : decode cX5_cost 5 = .ok (.getfield 117, 3) := by decide +kernel
theorem dX5_cost_8 : decode cX5_cost 8 = .ok (.ireturn, 1) := by decide +kernel
theorem dX5_cut_0 : decode cX5_cut 0 = .ok (.aload_n 0, 1) := by decide +kernel
theorem dX5_cut_1 : decode cX5_cut 1 = .ok (.iload_n 1, 1) := by decide +kernel
theorem dX5_cut_2 : decode cX5_cut 2 = .ok (.invokevirtual 78, 3) := by decide +kernel
theorem dX5_cut_5 : decode cX5_cut 5 = .ok (.ifCond .ne 5, 3) := by decide +kernel
theorem dX5_cut_8 : decode cX5_cut 8 = .ok (.iconst (-1), 1) := by decide +kernel
theorem dX5_cut_9 : decode cX5_cut 9 = .ok (.ireturn, 1) := by decide +kernel
theorem dX5_cut_10 : decode cX5_cut 10 = .ok (.aload_n 0, 1) := by decide +kernel
theorem dX5_cut_11 : decode cX5_cut 11 = .ok (.invokevirtual 124, 3) := by decide +kernel
theorem dX5_cut_14 : decode cX5_cut 14 = .ok (.aload_n 0, 1) := by decide +kernel
theorem dX5_cut_15 : decode cX5_cut 15 = .ok (.getfield 49, 3) := by decide +kernel
theorem dX5_cut_18 : decode cX5_cut 18 = .ok (.iload_n 1, 1) := by decide +kernel
theorem dX5_cut_19 : decode cX5_cut 19 = .ok (.iaload, 1) := by decide +kernel
theorem dX5_cut_20 : decode cX5_cut 20 = .ok (.ifCond .ge 8, 3) := by decide +kernel
theorem dX5_cut_23 : decode cX5_cut 23 = .ok (.bipush (-4), 2) := by decide +kernel
theorem dX5_cut_25 : decode cX5_cut 25 = .ok (.goto 9, 3) := by decide +kernel
theorem dX5_cut_28 : decode cX5_cut 28 = .ok (.aload_n 0, 1) := by decide +kernel
theorem dX5_cut_29 : decode cX5_cut 29 = .ok (.getfield 49, 3) := by decide +kernel
theorem dX5_cut_32 : decode cX5_cut 32 = .ok (.iload_n 1, 1) := by decide +kernel
theorem dX5_cut_33 : decode cX5_cut 33 = .ok (.iaload, 1) := by decide +kernel
theorem dX5_cut_34 : decode cX5_cut 34 = .ok (.ireturn, 1) := by decide +kernel
theorem dX5_choose_0 : decode cX5_choose 0 = .ok (.aload_n 0, 1) := by decide +kernel
theorem dX5_choose_1 : decode cX5_choose 1 = .ok (.iload_n 1, 1) := by decide +kernel
theorem dX5_choose_2 : decode cX5_choose 2 = .ok (.invokevirtual 78, 3) := by decide +kernel
theorem dX5_choose_5 : decode cX5_choose 5 = .ok (.ifCond .eq 17, 3) := by decide +kernel
theorem dX5_choose_8 : decode cX5_choose 8 = .ok (.iload_n 2, 1) := by decide +kernel
theorem dX5_choose_9 : decode cX5_choose 9 = .ok (.iconst (-1), 1) := by decide +kernel
theorem dX5_choose_10 : decode cX5_choose 10 = .ok (.aload_n 0, 1) := by decide +kernel
theorem dX5_choose_11 : decode cX5_choose 11 = .ok (.getfield 75, 3) := by decide +kernel
theorem dX5_choose_14 : decode cX5_choose 14 = .ok (.iconst 1, 1) := by decide +kernel
theorem dX5_choose_15 : decode cX5_choose 15 = .ok (.isub, 1) := by decide +kernel
theorem dX5_choose_16 : decode cX5_choose 16 = .ok (.invokestatic 68, 3) := by decide +kernel
theorem dX5_choose_19 : decode cX5_choose 19 = .ok (.ifCond .ne 6, 3) := by decide +kernel
theorem dX5_choose_22 : decode cX5_choose 22 = .ok (.bipush (-5), 2) := by decide +kernel
theorem dX5_choose_24 : decode cX5_choose 24 = .ok (.ireturn, 1) := by decide +kernel
theorem dX5_choose_25 : decode cX5_choose 25 = .ok (.iload_n 2, 1) := by decide +kernel
theorem dX5_choose_26 : decode cX5_choose 26 = .ok (.ifCond .lt 16, 3) := by decide +kernel
theorem dX5_choose_29 : decode cX5_choose 29 = .ok (.aload_n 0, 1) := by decide +kernel
theorem dX5_choose_30 : decode cX5_choose 30 = .ok (.getfield 28, 3) := by decide +kernel
theorem dX5_choose_33 : decode cX5_choose 33 = .ok (.iload_n 2, 1) := by decide +kernel
theorem dX5_choose_34 : decode cX5_choose 34 = .ok (.iaload, 1) := by decide +kernel
theorem dX5_choose_35 : decode cX5_choose 35 = .ok (.iload_n 1, 1) := by decide +kernel
theorem dX5_choose_36 : decode cX5_choose 36 = .ok (.if_icmp .eq 6, 3) := by decide +kernel
theorem dX5_choose_39 : decode cX5_choose 39 = .ok (.bipush (-3), 2) := by decide +kernel
theorem dX5_choose_41 : decode cX5_choose 41 = .ok (.ireturn, 1) := by decide +kernel
theorem dX5_choose_42 : decode cX5_choose 42 = .ok (.aload_n 0, 1) := by decide +kernel
theorem dX5_choose_43 : decode cX5_choose 43 = .ok (.getfield 16, 3) := by decide +kernel
theorem dX5_choose_46 : decode cX5_choose 46 = .ok (.iload_n 1, 1) := by decide +kernel
theorem dX5_choose_47 : decode cX5_choose 47 = .ok (.iaload, 1) := by decide +kernel
theorem dX5_choose_48 : decode cX5_choose 48 = .ok (.istore_n 3, 1) := by decide +kernel
theorem dX5_choose_49 : decode cX5_choose 49 = .ok (.aload_n 0, 1) := by decide +kernel
theorem dX5_choose_50 : decode cX5_choose 50 = .ok (.getfield 16, 3) := by decide +kernel
theorem dX5_choose_53 : decode cX5_choose 53 = .ok (.iload_n 1, 1) := by decide +kernel
theorem dX5_choose_54 : decode cX5_choose 54 = .ok (.iload_n 2, 1) := by decide +kernel
theorem dX5_choose_55 : decode cX5_choose 55 = .ok (.iastore, 1) := by decide +kernel
theorem dX5_choose_56 : decode cX5_choose 56 = .ok (.iload_n 3, 1) := by decide +kernel
theorem dX5_choose_57 : decode cX5_choose 57 = .ok (.ireturn, 1) := by decide +kernel
theorem dX5_adopt_0 : decode cX5_adopt 0 = .ok (.aload_n 0, 1) := by decide +kernel
theorem dX5_adopt_1 : decode cX5_adopt 1 = .ok (.invokevirtual 124, 3) := by decide +kernel
theorem dX5_adopt_4 : decode cX5_adopt 4 = .ok (.iconst 0, 1) := by decide +kernel
theorem dX5_adopt_5 : decode cX5_adopt 5 = .ok (.istore_n 1, 1) := by decide +kernel
theorem dX5_adopt_6 : decode cX5_adopt 6 = .ok (.iconst 0, 1) := by decide +kernel
theorem dX5_adopt_7 : decode cX5_adopt 7 = .ok (.istore_n 2, 1) := by decide +kernel
theorem dX5_adopt_8 : decode cX5_adopt 8 = .ok (.iload_n 2, 1) := by decide +kernel
theorem dX5_adopt_9 : decode cX5_adopt 9 = .ok (.aload_n 0, 1) := by decide +kernel
theorem dX5_adopt_10 : decode cX5_adopt 10 = .ok (.getfield 64, 3) := by decide +kernel
theorem dX5_adopt_13 : decode cX5_adopt 13 = .ok (.if_icmp .ge 44, 3) := by decide +kernel
theorem dX5_adopt_16 : decode cX5_adopt 16 = .ok (.iload_n 1, 1) := by decide +kernel
theorem dX5_adopt_17 : decode cX5_adopt 17 = .ok (.aload_n 0, 1) := by decide +kernel
theorem dX5_adopt_18 : decode cX5_adopt 18 = .ok (.getfield 16, 3) := by decide +kernel
theorem dX5_adopt_21 : decode cX5_adopt 21 = .ok (.iload_n 2, 1) := by decide +kernel
theorem dX5_adopt_22 : decode cX5_adopt 22 = .ok (.iaload, 1) := by decide +kernel
theorem dX5_adopt_23 : decode cX5_adopt 23 = .ok (.aload_n 0, 1) := by decide +kernel
theorem dX5_adopt_24 : decode cX5_adopt 24 = .ok (.getfield 49, 3) := by decide +kernel
theorem dX5_adopt_27 : decode cX5_adopt 27 = .ok (.iload_n 2, 1) := by decide +kernel
theorem dX5_adopt_28 : decode cX5_adopt 28 = .ok (.iaload, 1) := by decide +kernel
theorem dX5_adopt_29 : decode cX5_adopt 29 = .ok (.if_icmp .eq 7, 3) := by decide +kernel
theorem dX5_adopt_32 : decode cX5_adopt 32 = .ok (.iconst 1, 1) := by decide +kernel
theorem dX5_adopt_33 : decode cX5_adopt 33 = .ok (.goto 4, 3) := by decide +kernel
theorem dX5_adopt_36 : decode cX5_adopt 36 = .ok (.iconst 0, 1) := by decide +kernel
theorem dX5_adopt_37 : decode cX5_adopt 37 = .ok (.iadd, 1) := by decide +kernel
theorem dX5_adopt_38 : decode cX5_adopt 38 = .ok (.istore_n 1, 1) := by decide +kernel
theorem dX5_adopt_39 : decode cX5_adopt 39 = .ok (.aload_n 0, 1) := by decide +kernel
theorem dX5_adopt_40 : decode cX5_adopt 40 = .ok (.getfield 16, 3) := by decide +kernel
theorem dX5_adopt_43 : decode cX5_adopt 43 = .ok (.iload_n 2, 1) := by decide +kernel
theorem dX5_adopt_44 : decode cX5_adopt 44 = .ok (.aload_n 0, 1) := by decide +kernel
theorem dX5_adopt_45 : decode cX5_adopt 45 = .ok (.getfield 49, 3) := by decide +kernel
theorem dX5_adopt_48 : decode cX5_adopt 48 = .ok (.iload_n 2, 1) := by decide +kernel
theorem dX5_adopt_49 : decode cX5_adopt 49 = .ok (.iaload, 1) := by decide +kernel
theorem dX5_adopt_50 : decode cX5_adopt 50 = .ok (.iastore, 1) := by decide +kernel
theorem dX5_adopt_51 : decode cX5_adopt 51 = .ok (.iinc 2 1, 3) := by decide +kernel
theorem dX5_adopt_54 : decode cX5_adopt 54 = .ok (.goto (-46), 3) := by decide +kernel
theorem dX5_adopt_57 : decode cX5_adopt 57 = .ok (.iload_n 1, 1) := by decide +kernel
theorem dX5_adopt_58 : decode cX5_adopt 58 = .ok (.ireturn, 1) := by decide +kernel
theorem dX5_chosen_0 : decode cX5_chosen 0 = .ok (.aload_n 0, 1) := by decide +kernel
theorem dX5_chosen_1 : decode cX5_chosen 1 = .ok (.invokevirtual 111, 3) := by decide +kernel
theorem dX5_chosen_4 : decode cX5_chosen 4 = .ok (.aload_n 0, 1) := by decide +kernel
theorem dX5_chosen_5 : decode cX5_chosen 5 = .ok (.aload_n 0, 1) := by decide +kernel
theorem dX5_chosen_6 : decode cX5_chosen 6 = .ok (.getfield 16, 3) := by decide +kernel
theorem dX5_chosen_9 : decode cX5_chosen 9 = .ok (.invokevirtual 120, 3) := by decide +kernel
theorem dX5_chosen_12 : decode cX5_chosen 12 = .ok (.ireturn, 1) := by decide +kernel
theorem dX5_maySee_0 : decode cX5_maySee 0 = .ok (.iconst 1, 1) := by decide +kernel
theorem dX5_maySee_1 : decode cX5_maySee 1 = .ok (.istore 4, 2) := by decide +kernel
theorem dX5_maySee_3 : decode cX5_maySee 3 = .ok (.iconst 0, 1) := by decide +kernel
theorem dX5_maySee_4 : decode cX5_maySee 4 = .ok (.istore 5, 2) := by decide +kernel
theorem dX5_maySee_6 : decode cX5_maySee 6 = .ok (.iload 5, 2) := by decide +kernel
theorem dX5_maySee_8 : decode cX5_maySee 8 = .ok (.aload_n 0, 1) := by decide +kernel
theorem dX5_maySee_9 : decode cX5_maySee 9 = .ok (.getfield 64, 3) := by decide +kernel
theorem dX5_maySee_12 : decode cX5_maySee 12 = .ok (.if_icmp .ge 60, 3) := by decide +kernel
theorem dX5_maySee_15 : decode cX5_maySee 15 = .ok (.iload 4, 2) := by decide +kernel
theorem dX5_maySee_17 : decode cX5_maySee 17 = .ok (.ifCond .eq 46, 3) := by decide +kernel
theorem dX5_maySee_20 : decode cX5_maySee 20 = .ok (.aload_n 0, 1) := by decide +kernel
theorem dX5_maySee_21 : decode cX5_maySee 21 = .ok (.getfield 16, 3) := by decide +kernel
theorem dX5_maySee_24 : decode cX5_maySee 24 = .ok (.iload 5, 2) := by decide +kernel
theorem dX5_maySee_26 : decode cX5_maySee 26 = .ok (.iaload, 1) := by decide +kernel
theorem dX5_maySee_27 : decode cX5_maySee 27 = .ok (.ifCond .lt 32, 3) := by decide +kernel
theorem dX5_maySee_30 : decode cX5_maySee 30 = .ok (.aload_n 0, 1) := by decide +kernel
theorem dX5_maySee_31 : decode cX5_maySee 31 = .ok (.iload_n 2, 1) := by decide +kernel
theorem dX5_maySee_32 : decode cX5_maySee 32 = .ok (.iload_n 1, 1) := by decide +kernel
theorem dX5_maySee_33 : decode cX5_maySee 33 = .ok (.iload_n 3, 1) := by decide +kernel
theorem dX5_maySee_34 : decode cX5_maySee 34 = .ok (.iload 5, 2) := by decide +kernel
theorem dX5_maySee_36 : decode cX5_maySee 36 = .ok (.aload_n 0, 1) := by decide +kernel
theorem dX5_maySee_37 : decode cX5_maySee 37 = .ok (.getfield 34, 3) := by decide +kernel
theorem dX5_maySee_40 : decode cX5_maySee 40 = .ok (.bipush 6, 2) := by decide +kernel
theorem dX5_maySee_42 : decode cX5_maySee 42 = .ok (.aload_n 0, 1) := by decide +kernel
theorem dX5_maySee_43 : decode cX5_maySee 43 = .ok (.getfield 16, 3) := by decide +kernel
theorem dX5_maySee_46 : decode cX5_maySee 46 = .ok (.iload 5, 2) := by decide +kernel
theorem dX5_maySee_48 : decode cX5_maySee 48 = .ok (.iaload, 1) := by decide +kernel
theorem dX5_maySee_49 : decode cX5_maySee 49 = .ok (.imul, 1) := by decide +kernel
theorem dX5_maySee_50 : decode cX5_maySee 50 = .ok (.iload_n 2, 1) := by decide +kernel
theorem dX5_maySee_51 : decode cX5_maySee 51 = .ok (.iadd, 1) := by decide +kernel
theorem dX5_maySee_52 : decode cX5_maySee 52 = .ok (.iaload, 1) := by decide +kernel
theorem dX5_maySee_53 : decode cX5_maySee 53 = .ok (.invokevirtual 100, 3) := by decide +kernel
theorem dX5_maySee_56 : decode cX5_maySee 56 = .ok (.ifCond .ne 7, 3) := by decide +kernel
theorem dX5_maySee_59 : decode cX5_maySee 59 = .ok (.iconst 1, 1) := by decide +kernel
theorem dX5_maySee_60 : decode cX5_maySee 60 = .ok (.goto 4, 3) := by decide +kernel
theorem dX5_maySee_63 : decode cX5_maySee 63 = .ok (.iconst 0, 1) := by decide +kernel
theorem dX5_maySee_64 : decode cX5_maySee 64 = .ok (.istore 4, 2) := by decide +kernel
theorem dX5_maySee_66 : decode cX5_maySee 66 = .ok (.iinc 5 1, 3) := by decide +kernel
theorem dX5_maySee_69 : decode cX5_maySee 69 = .ok (.goto (-63), 3) := by decide +kernel
theorem dX5_maySee_72 : decode cX5_maySee 72 = .ok (.iload 4, 2) := by decide +kernel
theorem dX5_maySee_74 : decode cX5_maySee 74 = .ok (.ireturn, 1) := by decide +kernel
theorem dX5_findSpan_0 : decode cX5_findSpan 0 = .ok (.aload_n 0, 1) := by decide +kernel
theorem dX5_findSpan_1 : decode cX5_findSpan 1 = .ok (.iconst (-1), 1) := by decide +kernel
theorem dX5_findSpan_2 : decode cX5_findSpan 2 = .ok (.putfield 127, 3) := by decide +kernel
theorem dX5_findSpan_5 : decode cX5_findSpan 5 = .ok (.aload_n 0, 1) := by decide +kernel
theorem dX5_findSpan_6 : decode cX5_findSpan 6 = .ok (.iconst (-1), 1) := by decide +kernel
theorem dX5_findSpan_7 : decode cX5_findSpan 7 = .ok (.putfield 130, 3) := by decide +kernel
theorem dX5_findSpan_10 : decode cX5_findSpan 10 = .ok (.aload_n 0, 1) := by decide +kernel
theorem dX5_findSpan_11 : decode cX5_findSpan 11 = .ok (.iconst 0, 1) := by decide +kernel
theorem dX5_findSpan_12 : decode cX5_findSpan 12 = .ok (.putfield 133, 3) := by decide +kernel
theorem dX5_findSpan_15 : decode cX5_findSpan 15 = .ok (.iconst 0, 1) := by decide +kernel
theorem dX5_findSpan_16 : decode cX5_findSpan 16 = .ok (.istore_n 3, 1) := by decide +kernel
theorem dX5_findSpan_17 : decode cX5_findSpan 17 = .ok (.iload_n 3, 1) := by decide +kernel
theorem dX5_findSpan_18 : decode cX5_findSpan 18 = .ok (.bipush 100, 2) := by decide +kernel
theorem dX5_findSpan_20 : decode cX5_findSpan 20 = .ok (.if_icmp .ge 53, 3) := by decide +kernel
theorem dX5_findSpan_23 : decode cX5_findSpan 23 = .ok (.aload_n 0, 1) := by decide +kernel
theorem dX5_findSpan_24 : decode cX5_findSpan 24 = .ok (.iload_n 1, 1) := by decide +kernel
theorem dX5_findSpan_25 : decode cX5_findSpan 25 = .ok (.iload_n 2, 1) := by decide +kernel
theorem dX5_findSpan_26 : decode cX5_findSpan 26 = .ok (.iload_n 3, 1) := by decide +kernel
theorem dX5_findSpan_27 : decode cX5_findSpan 27 = .ok (.invokevirtual 136, 3) := by decide +kernel
theorem dX5_findSpan_30 : decode cX5_findSpan 30 = .ok (.ifCond .eq 37, 3) := by decide +kernel
theorem dX5_findSpan_33 : decode cX5_findSpan 33 = .ok (.aload_n 0, 1) := by decide +kernel
theorem dX5_findSpan_34 : decode cX5_findSpan 34 = .ok (.aload_n 0, 1) := by decide +kernel
theorem dX5_findSpan_35 : decode cX5_findSpan 35 = .ok (.getfield 127, 3) := by decide +kernel
theorem dX5_findSpan_38 : decode cX5_findSpan 38 = .ok (.ifCond .ge 7, 3) := by decide +kernel
theorem dX5_findSpan_41 : decode cX5_findSpan 41 = .ok (.iload_n 3, 1) := by decide +kernel
theorem dX5_findSpan_42 : decode cX5_findSpan 42 = .ok (.goto 7, 3) := by decide +kernel
theorem dX5_findSpan_45 : decode cX5_findSpan 45 = .ok (.aload_n 0, 1) := by decide +kernel
theorem dX5_findSpan_46 : decode cX5_findSpan 46 = .ok (.getfield 127, 3) := by decide +kernel
theorem dX5_findSpan_49 : decode cX5_findSpan 49 = .ok (.putfield 127, 3) := by decide +kernel
theorem dX5_findSpan_52 : decode cX5_findSpan 52 = .ok (.aload_n 0, 1) := by decide +kernel
theorem dX5_findSpan_53 : decode cX5_findSpan 53 = .ok (.iload_n 3, 1) := by decide +kernel
theorem dX5_findSpan_54 : decode cX5_findSpan 54 = .ok (.putfield 130, 3) := by decide +kernel
theorem dX5_findSpan_57 : decode cX5_findSpan 57 = .ok (.aload_n 0, 1) := by decide +kernel
theorem dX5_findSpan_58 : decode cX5_findSpan 58 = .ok (.dup, 1) := by decide +kernel
theorem dX5_findSpan_59 : decode cX5_findSpan 59 = .ok (.getfield 133, 3) := by decide +kernel
theorem dX5_findSpan_62 : decode cX5_findSpan 62 = .ok (.iconst 1, 1) := by decide +kernel
theorem dX5_findSpan_63 : decode cX5_findSpan 63 = .ok (.iadd, 1) := by decide +kernel
theorem dX5_findSpan_64 : decode cX5_findSpan 64 = .ok (.putfield 133, 3) := by decide +kernel
theorem dX5_findSpan_67 : decode cX5_findSpan 67 = .ok (.iinc 3 1, 3) := by decide +kernel
theorem dX5_findSpan_70 : decode cX5_findSpan 70 = .ok (.goto (-53), 3) := by decide +kernel
theorem dX5_findSpan_73 : decode cX5_findSpan 73 = .ok (.return_, 1) := by decide +kernel
theorem dX5_span_0 : decode cX5_span 0 = .ok (.aload_n 0, 1) := by decide +kernel
theorem dX5_span_1 : decode cX5_span 1 = .ok (.iload_n 1, 1) := by decide +kernel
theorem dX5_span_2 : decode cX5_span 2 = .ok (.invokevirtual 78, 3) := by decide +kernel
theorem dX5_span_5 : decode cX5_span 5 = .ok (.ifCond .eq 20, 3) := by decide +kernel
theorem dX5_span_8 : decode cX5_span 8 = .ok (.aload_n 0, 1) := by decide +kernel
theorem dX5_span_9 : decode cX5_span 9 = .ok (.iload_n 2, 1) := by decide +kernel
theorem dX5_span_10 : decode cX5_span 10 = .ok (.invokevirtual 82, 3) := by decide +kernel
theorem dX5_span_13 : decode cX5_span 13 = .ok (.ifCond .eq 12, 3) := by decide +kernel
theorem dX5_span_16 : decode cX5_span 16 = .ok (.iload_n 3, 1) := by decide +kernel
theorem dX5_span_17 : decode cX5_span 17 = .ok (.iconst 0, 1) := by decide +kernel
theorem dX5_span_18 : decode cX5_span 18 = .ok (.iconst 2, 1) := by decide +kernel
theorem dX5_span_19 : decode cX5_span 19 = .ok (.invokestatic 68, 3) := by decide +kernel
theorem dX5_span_22 : decode cX5_span 22 = .ok (.ifCond .ne 5, 3) := by decide +kernel
theorem dX5_span_25 : decode cX5_span 25 = .ok (.iconst (-1), 1) := by decide +kernel
theorem dX5_span_26 : decode cX5_span 26 = .ok (.ireturn, 1) := by decide +kernel
theorem dX5_span_27 : decode cX5_span 27 = .ok (.aload_n 0, 1) := by decide +kernel
theorem dX5_span_28 : decode cX5_span 28 = .ok (.iload_n 1, 1) := by decide +kernel
theorem dX5_span_29 : decode cX5_span 29 = .ok (.iload_n 2, 1) := by decide +kernel
theorem dX5_span_30 : decode cX5_span 30 = .ok (.invokevirtual 139, 3) := by decide +kernel
theorem dX5_span_33 : decode cX5_span 33 = .ok (.iload_n 3, 1) := by decide +kernel
theorem dX5_span_34 : decode cX5_span 34 = .ok (.iconst 2, 1) := by decide +kernel
theorem dX5_span_35 : decode cX5_span 35 = .ok (.if_icmp .ne 8, 3) := by decide +kernel
theorem dX5_span_38 : decode cX5_span 38 = .ok (.aload_n 0, 1) := by decide +kernel
theorem dX5_span_39 : decode cX5_span 39 = .ok (.getfield 133, 3) := by decide +kernel
theorem dX5_span_42 : decode cX5_span 42 = .ok (.ireturn, 1) := by decide +kernel
theorem dX5_span_43 : decode cX5_span 43 = .ok (.aload_n 0, 1) := by decide +kernel
theorem dX5_span_44 : decode cX5_span 44 = .ok (.getfield 133, 3) := by decide +kernel
theorem dX5_span_47 : decode cX5_span 47 = .ok (.ifCond .ne 8, 3) := by decide +kernel
theorem dX5_span_50 : decode cX5_span 50 = .ok (.bipush (-4), 2) := by decide +kernel
theorem dX5_span_52 : decode cX5_span 52 = .ok (.goto 18, 3) := by decide +kernel
theorem dX5_span_55 : decode cX5_span 55 = .ok (.iload_n 3, 1) := by decide +kernel
theorem dX5_span_56 : decode cX5_span 56 = .ok (.ifCond .ne 10, 3) := by decide +kernel
theorem dX5_span_59 : decode cX5_span 59 = .ok (.aload_n 0, 1) := by decide +kernel
theorem dX5_span_60 : decode cX5_span 60 = .ok (.getfield 127, 3) := by decide +kernel
theorem dX5_span_63 : decode cX5_span 63 = .ok (.goto 7, 3) := by decide +kernel
theorem dX5_span_66 : decode cX5_span 66 = .ok (.aload_n 0, 1) := by decide +kernel
theorem dX5_span_67 : decode cX5_span 67 = .ok (.getfield 130, 3) := by decide +kernel
theorem dX5_span_70 : decode cX5_span 70 = .ok (.ireturn, 1) := by decide +kernel
theorem dX5_findDoubles_0 : decode cX5_findDoubles 0 = .ok (.aload_n 0, 1) := by decide +kernel
theorem dX5_findDoubles_1 : decode cX5_findDoubles 1 = .ok (.iconst 0, 1) := by decide +kernel
theorem dX5_findDoubles_2 : decode cX5_findDoubles 2 = .ok (.putfield 143, 3) := by decide +kernel
theorem dX5_findDoubles_5 : decode cX5_findDoubles 5 = .ok (.iload_n 2, 1) := by decide +kernel
theorem dX5_findDoubles_6 : decode cX5_findDoubles 6 = .ok (.istore_n 3, 1) := by decide +kernel
theorem dX5_findDoubles_7 : decode cX5_findDoubles 7 = .ok (.iconst 0, 1) := by decide +kernel
theorem dX5_findDoubles_8 : decode cX5_findDoubles 8 = .ok (.istore 4, 2) := by decide +kernel
theorem dX5_findDoubles_10 : decode cX5_findDoubles 10 = .ok (.iload 4, 2) := by decide +kernel
theorem dX5_findDoubles_12 : decode cX5_findDoubles 12 = .ok (.aload_n 0, 1) := by decide +kernel
theorem dX5_findDoubles_13 : decode cX5_findDoubles 13 = .ok (.getfield 64, 3) := by decide +kernel
theorem dX5_findDoubles_16 : decode cX5_findDoubles 16 = .ok (.if_icmp .ge 57, 3) := by decide +kernel
theorem dX5_findDoubles_19 : decode cX5_findDoubles 19 = .ok (.aload_n 0, 1) := by decide +kernel
theorem dX5_findDoubles_20 : decode cX5_findDoubles 20 = .ok (.iload 4, 2) := by decide +kernel
theorem dX5_findDoubles_22 : decode cX5_findDoubles 22 = .ok (.iload_n 1, 1) := by decide +kernel
theorem dX5_findDoubles_23 : decode cX5_findDoubles 23 = .ok (.invokevirtual 139, 3) := by decide +kernel
theorem dX5_findDoubles_26 : decode cX5_findDoubles 26 = .ok (.aload_n 0, 1) := by decide +kernel
theorem dX5_findDoubles_27 : decode cX5_findDoubles 27 = .ok (.getfield 55, 3) := by decide +kernel
theorem dX5_findDoubles_30 : decode cX5_findDoubles 30 = .ok (.iload 4, 2) := by decide +kernel
theorem dX5_findDoubles_32 : decode cX5_findDoubles 32 = .ok (.aload_n 0, 1) := by decide +kernel
theorem dX5_findDoubles_33 : decode cX5_findDoubles 33 = .ok (.getfield 127, 3) := by decide +kernel
theorem dX5_findDoubles_36 : decode cX5_findDoubles 36 = .ok (.iastore, 1) := by decide +kernel
theorem dX5_findDoubles_37 : decode cX5_findDoubles 37 = .ok (.aload_n 0, 1) := by decide +kernel
theorem dX5_findDoubles_38 : decode cX5_findDoubles 38 = .ok (.getfield 58, 3) := by decide +kernel
theorem dX5_findDoubles_41 : decode cX5_findDoubles 41 = .ok (.iload 4, 2) := by decide +kernel
theorem dX5_findDoubles_43 : decode cX5_findDoubles 43 = .ok (.aload_n 0, 1) := by decide +kernel
theorem dX5_findDoubles_44 : decode cX5_findDoubles 44 = .ok (.getfield 130, 3) := by decide +kernel
theorem dX5_findDoubles_47 : decode cX5_findDoubles 47 = .ok (.iastore, 1) := by decide +kernel
theorem dX5_findDoubles_48 : decode cX5_findDoubles 48 = .ok (.iload_n 2, 1) := by decide +kernel
theorem dX5_findDoubles_49 : decode cX5_findDoubles 49 = .ok (.iload 4, 2) := by decide +kernel
theorem dX5_findDoubles_51 : decode cX5_findDoubles 51 = .ok (.ishr, 1) := by decide +kernel
theorem dX5_findDoubles_52 : decode cX5_findDoubles 52 = .ok (.iconst 1, 1) := by decide +kernel
theorem dX5_findDoubles_53 : decode cX5_findDoubles 53 = .ok (.iand, 1) := by decide +kernel
theorem dX5_findDoubles_54 : decode cX5_findDoubles 54 = .ok (.iconst 1, 1) := by decide +kernel
theorem dX5_findDoubles_55 : decode cX5_findDoubles 55 = .ok (.if_icmp .ne 12, 3) := by decide +kernel
theorem dX5_findDoubles_58 : decode cX5_findDoubles 58 = .ok (.aload_n 0, 1) := by decide +kernel
theorem dX5_findDoubles_59 : decode cX5_findDoubles 59 = .ok (.getfield 133, 3) := by decide +kernel
theorem dX5_findDoubles_62 : decode cX5_findDoubles 62 = .ok (.ifCond .ne 5, 3) := by decide +kernel
theorem dX5_findDoubles_65 : decode cX5_findDoubles 65 = .ok (.iconst 0, 1) := by decide +kernel
theorem dX5_findDoubles_66 : decode cX5_findDoubles 66 = .ok (.ireturn, 1) := by decide +kernel
theorem dX5_findDoubles_67 : decode cX5_findDoubles 67 = .ok (.iinc 4 1, 3) := by decide +kernel
theorem dX5_findDoubles_70 : decode cX5_findDoubles 70 = .ok (.goto (-60), 3) := by decide +kernel
theorem dX5_findDoubles_73 : decode cX5_findDoubles 73 = .ok (.iload_n 3, 1) := by decide +kernel
theorem dX5_findDoubles_74 : decode cX5_findDoubles 74 = .ok (.ifCond .eq 138, 3) := by decide +kernel
theorem dX5_findDoubles_77 : decode cX5_findDoubles 77 = .ok (.bipush 100, 2) := by decide +kernel
theorem dX5_findDoubles_79 : decode cX5_findDoubles 79 = .ok (.istore 4, 2) := by decide +kernel
theorem dX5_findDoubles_81 : decode cX5_findDoubles 81 = .ok (.iconst 0, 1) := by decide +kernel
theorem dX5_findDoubles_82 : decode cX5_findDoubles 82 = .ok (.istore 5, 2) := by decide +kernel
theorem dX5_findDoubles_84 : decode cX5_findDoubles 84 = .ok (.iload 5, 2) := by decide +kernel
theorem dX5_findDoubles_86 : decode cX5_findDoubles 86 = .ok (.aload_n 0, 1) := by decide +kernel
theorem dX5_findDoubles_87 : decode cX5_findDoubles 87 = .ok (.getfield 64, 3) := by decide +kernel
theorem dX5_findDoubles_90 : decode cX5_findDoubles 90 = .ok (.if_icmp .ge 45, 3) := by decide +kernel
theorem dX5_findDoubles_93 : decode cX5_findDoubles 93 = .ok (.iload_n 3, 1) := by decide +kernel
theorem dX5_findDoubles_94 : decode cX5_findDoubles 94 = .ok (.iload 5, 2) := by decide +kernel
theorem dX5_findDoubles_96 : decode cX5_findDoubles 96 = .ok (.ishr, 1) := by decide +kernel
theorem dX5_findDoubles_97 : decode cX5_findDoubles 97 = .ok (.iconst 1, 1) := by decide +kernel
theorem dX5_findDoubles_98 : decode cX5_findDoubles 98 = .ok (.iand, 1) := by decide +kernel
theorem dX5_findDoubles_99 : decode cX5_findDoubles 99 = .ok (.iconst 1, 1) := by decide +kernel
theorem dX5_findDoubles_100 : decode cX5_findDoubles 100 = .ok (.if_icmp .ne 25, 3) := by decide +kernel
theorem dX5_findDoubles_103 : decode cX5_findDoubles 103 = .ok (.aload_n 0, 1) := by decide +kernel
theorem dX5_findDoubles_104 : decode cX5_findDoubles 104 = .ok (.getfield 58, 3) := by decide +kernel
theorem dX5_findDoubles_107 : decode cX5_findDoubles 107 = .ok (.iload 5, 2) := by decide +kernel
theorem dX5_findDoubles_109 : decode cX5_findDoubles 109 = .ok (.iaload, 1) := by decide +kernel
theorem dX5_findDoubles_110 : decode cX5_findDoubles 110 = .ok (.iload 4, 2) := by decide +kernel
theorem dX5_findDoubles_112 : decode cX5_findDoubles 112 = .ok (.if_icmp .ge 13, 3) := by decide +kernel
theorem dX5_findDoubles_115 : decode cX5_findDoubles 115 = .ok (.aload_n 0, 1) := by decide +kernel
theorem dX5_findDoubles_116 : decode cX5_findDoubles 116 = .ok (.getfield 58, 3) := by decide +kernel
theorem dX5_findDoubles_119 : decode cX5_findDoubles 119 = .ok (.iload 5, 2) := by decide +kernel
theorem dX5_findDoubles_121 : decode cX5_findDoubles 121 = .ok (.iaload, 1) := by decide +kernel
theorem dX5_findDoubles_122 : decode cX5_findDoubles 122 = .ok (.goto 5, 3) := by decide +kernel
theorem dX5_findDoubles_125 : decode cX5_findDoubles 125 = .ok (.iload 4, 2) := by decide +kernel
theorem dX5_findDoubles_127 : decode cX5_findDoubles 127 = .ok (.istore 4, 2) := by decide +kernel
theorem dX5_findDoubles_129 : decode cX5_findDoubles 129 = .ok (.iinc 5 1, 3) := by decide +kernel
theorem dX5_findDoubles_132 : decode cX5_findDoubles 132 = .ok (.goto (-48), 3) := by decide +kernel
theorem dX5_findDoubles_135 : decode cX5_findDoubles 135 = .ok (.aload_n 0, 1) := by decide +kernel
theorem dX5_findDoubles_136 : decode cX5_findDoubles 136 = .ok (.getfield 61, 3) := by decide +kernel
theorem dX5_findDoubles_139 : decode cX5_findDoubles 139 = .ok (.aload_n 0, 1) := by decide +kernel
theorem dX5_findDoubles_140 : decode cX5_findDoubles 140 = .ok (.getfield 143, 3) := by decide +kernel
theorem dX5_findDoubles_143 : decode cX5_findDoubles 143 = .ok (.iload 4, 2) := by decide +kernel
theorem dX5_findDoubles_145 : decode cX5_findDoubles 145 = .ok (.iastore, 1) := by decide +kernel
theorem dX5_findDoubles_146 : decode cX5_findDoubles 146 = .ok (.aload_n 0, 1) := by decide +kernel
theorem dX5_findDoubles_147 : decode cX5_findDoubles 147 = .ok (.dup, 1) := by decide +kernel
theorem dX5_findDoubles_148 : decode cX5_findDoubles 148 = .ok (.getfield 143, 3) := by decide +kernel
theorem dX5_findDoubles_151 : decode cX5_findDoubles 151 = .ok (.iconst 1, 1) := by decide +kernel
theorem dX5_findDoubles_152 : decode cX5_findDoubles 152 = .ok (.iadd, 1) := by decide +kernel
theorem dX5_findDoubles_153 : decode cX5_findDoubles 153 = .ok (.putfield 143, 3) := by decide +kernel
theorem dX5_findDoubles_156 : decode cX5_findDoubles 156 = .ok (.iconst 0, 1) := by decide +kernel
theorem dX5_findDoubles_157 : decode cX5_findDoubles 157 = .ok (.istore 5, 2) := by decide +kernel
theorem dX5_findDoubles_159 : decode cX5_findDoubles 159 = .ok (.iload 5, 2) := by decide +kernel
theorem dX5_findDoubles_161 : decode cX5_findDoubles 161 = .ok (.aload_n 0, 1) := by decide +kernel
theorem dX5_findDoubles_162 : decode cX5_findDoubles 162 = .ok (.getfield 64, 3) := by decide +kernel
theorem dX5_findDoubles_165 : decode cX5_findDoubles 165 = .ok (.if_icmp .ge 44, 3) := by decide +kernel
theorem dX5_findDoubles_168 : decode cX5_findDoubles 168 = .ok (.iload_n 3, 1) := by decide +kernel
theorem dX5_findDoubles_169 : decode cX5_findDoubles 169 = .ok (.iload 5, 2) := by decide +kernel
theorem dX5_findDoubles_171 : decode cX5_findDoubles 171 = .ok (.ishr, 1) := by decide +kernel
theorem dX5_findDoubles_172 : decode cX5_findDoubles 172 = .ok (.iconst 1, 1) := by decide +kernel
theorem dX5_findDoubles_173 : decode cX5_findDoubles 173 = .ok (.iand, 1) := by decide +kernel
theorem dX5_findDoubles_174 : decode cX5_findDoubles 174 = .ok (.iconst 1, 1) := by decide +kernel
theorem dX5_findDoubles_175 : decode cX5_findDoubles 175 = .ok (.if_icmp .ne 26, 3) := by decide +kernel
theorem dX5_findDoubles_178 : decode cX5_findDoubles 178 = .ok (.aload_n 0, 1) := by decide +kernel
theorem dX5_findDoubles_179 : decode cX5_findDoubles 179 = .ok (.getfield 55, 3) := by decide +kernel
theorem dX5_findDoubles_182 : decode cX5_findDoubles 182 = .ok (.iload 5, 2) := by decide +kernel
theorem dX5_findDoubles_184 : decode cX5_findDoubles 184 = .ok (.iaload, 1) := by decide +kernel
theorem dX5_findDoubles_185 : decode cX5_findDoubles 185 = .ok (.iload 4, 2) := by decide +kernel
theorem dX5_findDoubles_187 : decode cX5_findDoubles 187 = .ok (.if_icmp .gt 14, 3) := by decide +kernel
theorem dX5_findDoubles_190 : decode cX5_findDoubles 190 = .ok (.iload_n 3, 1) := by decide +kernel
theorem dX5_findDoubles_191 : decode cX5_findDoubles 191 = .ok (.iconst 1, 1) := by decide +kernel
theorem dX5_findDoubles_192 : decode cX5_findDoubles 192 = .ok (.iload 5, 2) := by decide +kernel
theorem dX5_findDoubles_194 : decode cX5_findDoubles 194 = .ok (.ishl, 1) := by decide +kernel
theorem dX5_findDoubles_195 : decode cX5_findDoubles 195 = .ok (.iconst (-1), 1) := by decide +kernel
theorem dX5_findDoubles_196 : decode cX5_findDoubles 196 = .ok (.ixor, 1) := by decide +kernel
theorem dX5_findDoubles_197 : decode cX5_findDoubles 197 = .ok (.iand, 1) := by decide +kernel
theorem dX5_findDoubles_198 : decode cX5_findDoubles 198 = .ok (.goto 4, 3) := by decide +kernel
theorem dX5_findDoubles_201 : decode cX5_findDoubles 201 = .ok (.iload_n 3, 1) := by decide +kernel
theorem dX5_findDoubles_202 : decode cX5_findDoubles 202 = .ok (.istore_n 3, 1) := by decide +kernel
theorem dX5_findDoubles_203 : decode cX5_findDoubles 203 = .ok (.iinc 5 1, 3) := by decide +kernel
theorem dX5_findDoubles_206 : decode cX5_findDoubles 206 = .ok (.goto (-47), 3) := by decide +kernel
theorem dX5_findDoubles_209 : decode cX5_findDoubles 209 = .ok (.goto (-136), 3) := by decide +kernel
theorem dX5_findDoubles_212 : decode cX5_findDoubles 212 = .ok (.iconst 1, 1) := by decide +kernel
theorem dX5_findDoubles_213 : decode cX5_findDoubles 213 = .ok (.ireturn, 1) := by decide +kernel
theorem dX5_isSet_0 : decode cX5_isSet 0 = .ok (.iload_n 1, 1) := by decide +kernel
theorem dX5_isSet_1 : decode cX5_isSet 1 = .ok (.ifCond .lt 17, 3) := by decide +kernel
theorem dX5_isSet_4 : decode cX5_isSet 4 = .ok (.iload_n 1, 1) := by decide +kernel
theorem dX5_isSet_5 : decode cX5_isSet 5 = .ok (.iconst 1, 1) := by decide +kernel
theorem dX5_isSet_6 : decode cX5_isSet 6 = .ok (.aload_n 0, 1) := by decide +kernel
theorem dX5_isSet_7 : decode cX5_isSet 7 = .ok (.getfield 64, 3) := by decide +kernel
theorem dX5_isSet_10 : decode cX5_isSet 10 = .ok (.ishl, 1) := by decide +kernel
theorem dX5_isSet_11 : decode cX5_isSet 11 = .ok (.if_icmp .ge 7, 3) := by decide +kernel
theorem dX5_isSet_14 : decode cX5_isSet 14 = .ok (.iconst 1, 1) := by decide +kernel
theorem dX5_isSet_15 : decode cX5_isSet 15 = .ok (.goto 4, 3) := by decide +kernel
theorem dX5_isSet_18 : decode cX5_isSet 18 = .ok (.iconst 0, 1) := by decide +kernel
theorem dX5_isSet_19 : decode cX5_isSet 19 = .ok (.ireturn, 1) := by decide +kernel
theorem dX5_twin_0 : decode cX5_twin 0 = .ok (.aload_n 0, 1) := by decide +kernel
theorem dX5_twin_1 : decode cX5_twin 1 = .ok (.iload_n 1, 1) := by decide +kernel
theorem dX5_twin_2 : decode cX5_twin 2 = .ok (.invokevirtual 82, 3) := by decide +kernel
theorem dX5_twin_5 : decode cX5_twin 5 = .ok (.ifCond .eq 11, 3) := by decide +kernel
theorem dX5_twin_8 : decode cX5_twin 8 = .ok (.aload_n 0, 1) := by decide +kernel
theorem dX5_twin_9 : decode cX5_twin 9 = .ok (.iload_n 2, 1) := by decide +kernel
theorem dX5_twin_10 : decode cX5_twin 10 = .ok (.invokevirtual 146, 3) := by decide +kernel
theorem dX5_twin_13 : decode cX5_twin 13 = .ok (.ifCond .ne 5, 3) := by decide +kernel
theorem dX5_twin_16 : decode cX5_twin 16 = .ok (.iconst (-1), 1) := by decide +kernel
theorem dX5_twin_17 : decode cX5_twin 17 = .ok (.ireturn, 1) := by decide +kernel
theorem dX5_twin_18 : decode cX5_twin 18 = .ok (.aload_n 0, 1) := by decide +kernel
theorem dX5_twin_19 : decode cX5_twin 19 = .ok (.iload_n 1, 1) := by decide +kernel
theorem dX5_twin_20 : decode cX5_twin 20 = .ok (.iload_n 2, 1) := by decide +kernel
theorem dX5_twin_21 : decode cX5_twin 21 = .ok (.invokevirtual 149, 3) := by decide +kernel
theorem dX5_twin_24 : decode cX5_twin 24 = .ok (.ifCond .eq 26, 3) := by decide +kernel
theorem dX5_twin_27 : decode cX5_twin 27 = .ok (.iload_n 3, 1) := by decide +kernel
theorem dX5_twin_28 : decode cX5_twin 28 = .ok (.iconst 0, 1) := by decide +kernel
theorem dX5_twin_29 : decode cX5_twin 29 = .ok (.aload_n 0, 1) := by decide +kernel
theorem dX5_twin_30 : decode cX5_twin 30 = .ok (.getfield 143, 3) := by decide +kernel
theorem dX5_twin_33 : decode cX5_twin 33 = .ok (.iconst 1, 1) := by decide +kernel
theorem dX5_twin_34 : decode cX5_twin 34 = .ok (.isub, 1) := by decide +kernel
theorem dX5_twin_35 : decode cX5_twin 35 = .ok (.invokestatic 68, 3) := by decide +kernel
theorem dX5_twin_38 : decode cX5_twin 38 = .ok (.ifCond .eq 12, 3) := by decide +kernel
theorem dX5_twin_41 : decode cX5_twin 41 = .ok (.aload_n 0, 1) := by decide +kernel
theorem dX5_twin_42 : decode cX5_twin 42 = .ok (.getfield 61, 3) := by decide +kernel
theorem dX5_twin_45 : decode cX5_twin 45 = .ok (.iload_n 3, 1) := by decide +kernel
theorem dX5_twin_46 : decode cX5_twin 46 = .ok (.iaload, 1) := by decide +kernel
theorem dX5_twin_47 : decode cX5_twin 47 = .ok (.goto 5, 3) := by decide +kernel
theorem dX5_twin_50 : decode cX5_twin 50 = .ok (.bipush (-4), 2) := by decide +kernel
theorem dX5_twin_52 : decode cX5_twin 52 = .ok (.ireturn, 1) := by decide +kernel
theorem dX5_doubles_0 : decode cX5_doubles 0 = .ok (.aload_n 0, 1) := by decide +kernel
theorem dX5_doubles_1 : decode cX5_doubles 1 = .ok (.iload_n 1, 1) := by decide +kernel
theorem dX5_doubles_2 : decode cX5_doubles 2 = .ok (.invokevirtual 82, 3) := by decide +kernel
theorem dX5_doubles_5 : decode cX5_doubles 5 = .ok (.ifCond .eq 11, 3) := by decide +kernel
theorem dX5_doubles_8 : decode cX5_doubles 8 = .ok (.aload_n 0, 1) := by decide +kernel
theorem dX5_doubles_9 : decode cX5_doubles 9 = .ok (.iload_n 2, 1) := by decide +kernel
theorem dX5_doubles_10 : decode cX5_doubles 10 = .ok (.invokevirtual 146, 3) := by decide +kernel
theorem dX5_doubles_13 : decode cX5_doubles 13 = .ok (.ifCond .ne 5, 3) := by decide +kernel
theorem dX5_doubles_16 : decode cX5_doubles 16 = .ok (.iconst (-1), 1) := by decide +kernel
theorem dX5_doubles_17 : decode cX5_doubles 17 = .ok (.ireturn, 1) := by decide +kernel
theorem dX5_doubles_18 : decode cX5_doubles 18 = .ok (.aload_n 0, 1) := by decide +kernel
theorem dX5_doubles_19 : decode cX5_doubles 19 = .ok (.iload_n 1, 1) := by decide +kernel
theorem dX5_doubles_20 : decode cX5_doubles 20 = .ok (.iload_n 2, 1) := by decide +kernel
theorem dX5_doubles_21 : decode cX5_doubles 21 = .ok (.invokevirtual 149, 3) := by decide +kernel
theorem dX5_doubles_24 : decode cX5_doubles 24 = .ok (.ifCond .eq 10, 3) := by decide +kernel
theorem dX5_doubles_27 : decode cX5_doubles 27 = .ok (.aload_n 0, 1) := by decide +kernel
theorem dX5_doubles_28 : decode cX5_doubles 28 = .ok (.getfield 143, 3) := by decide +kernel
theorem dX5_doubles_31 : decode cX5_doubles 31 = .ok (.goto 5, 3) := by decide +kernel
theorem dX5_doubles_34 : decode cX5_doubles 34 = .ok (.bipush (-4), 2) := by decide +kernel
theorem dX5_doubles_36 : decode cX5_doubles 36 = .ok (.ireturn, 1) := by decide +kernel
theorem dX5_areQuiet_0 : decode cX5_areQuiet 0 = .ok (.iconst 1, 1) := by decide +kernel
theorem dX5_areQuiet_1 : decode cX5_areQuiet 1 = .ok (.istore_n 2, 1) := by decide +kernel
theorem dX5_areQuiet_2 : decode cX5_areQuiet 2 = .ok (.iconst 0, 1) := by decide +kernel
theorem dX5_areQuiet_3 : decode cX5_areQuiet 3 = .ok (.istore_n 3, 1) := by decide +kernel
theorem dX5_areQuiet_4 : decode cX5_areQuiet 4 = .ok (.iload_n 3, 1) := by decide +kernel
theorem dX5_areQuiet_5 : decode cX5_areQuiet 5 = .ok (.aload_n 0, 1) := by decide +kernel
theorem dX5_areQuiet_6 : decode cX5_areQuiet 6 = .ok (.getfield 64, 3) := by decide +kernel
theorem dX5_areQuiet_9 : decode cX5_areQuiet 9 = .ok (.if_icmp .ge 103, 3) := by decide +kernel
theorem dX5_areQuiet_12 : decode cX5_areQuiet 12 = .ok (.iconst 0, 1) := by decide +kernel
theorem dX5_areQuiet_13 : decode cX5_areQuiet 13 = .ok (.istore 4, 2) := by decide +kernel
theorem dX5_areQuiet_15 : decode cX5_areQuiet 15 = .ok (.iload 4, 2) := by decide +kernel
theorem dX5_areQuiet_17 : decode cX5_areQuiet 17 = .ok (.iload_n 3, 1) := by decide +kernel
theorem dX5_areQuiet_18 : decode cX5_areQuiet 18 = .ok (.if_icmp .ge 88, 3) := by decide +kernel
theorem dX5_areQuiet_21 : decode cX5_areQuiet 21 = .ok (.iload_n 1, 1) := by decide +kernel
theorem dX5_areQuiet_22 : decode cX5_areQuiet 22 = .ok (.iload_n 3, 1) := by decide +kernel
theorem dX5_areQuiet_23 : decode cX5_areQuiet 23 = .ok (.ishr, 1) := by decide +kernel
theorem dX5_areQuiet_24 : decode cX5_areQuiet 24 = .ok (.iload_n 1, 1) := by decide +kernel
theorem dX5_areQuiet_25 : decode cX5_areQuiet 25 = .ok (.iload 4, 2) := by decide +kernel
theorem dX5_areQuiet_27 : decode cX5_areQuiet 27 = .ok (.ishr, 1) := by decide +kernel
theorem dX5_areQuiet_28 : decode cX5_areQuiet 28 = .ok (.ior, 1) := by decide +kernel
theorem dX5_areQuiet_29 : decode cX5_areQuiet 29 = .ok (.iconst 1, 1) := by decide +kernel
theorem dX5_areQuiet_30 : decode cX5_areQuiet 30 = .ok (.iand, 1) := by decide +kernel
theorem dX5_areQuiet_31 : decode cX5_areQuiet 31 = .ok (.ifCond .ne 26, 3) := by decide +kernel
theorem dX5_areQuiet_34 : decode cX5_areQuiet 34 = .ok (.aload_n 0, 1) := by decide +kernel
theorem dX5_areQuiet_35 : decode cX5_areQuiet 35 = .ok (.getfield 16, 3) := by decide +kernel
theorem dX5_areQuiet_38 : decode cX5_areQuiet 38 = .ok (.iload_n 3, 1) := by decide +kernel
theorem dX5_areQuiet_39 : decode cX5_areQuiet 39 = .ok (.iaload, 1) := by decide +kernel
theorem dX5_areQuiet_40 : decode cX5_areQuiet 40 = .ok (.ifCond .lt 17, 3) := by decide +kernel
theorem dX5_areQuiet_43 : decode cX5_areQuiet 43 = .ok (.aload_n 0, 1) := by decide +kernel
theorem dX5_areQuiet_44 : decode cX5_areQuiet 44 = .ok (.getfield 16, 3) := by decide +kernel
theorem dX5_areQuiet_47 : decode cX5_areQuiet 47 = .ok (.iload 4, 2) := by decide +kernel
theorem dX5_areQuiet_49 : decode cX5_areQuiet 49 = .ok (.iaload, 1) := by decide +kernel
theorem dX5_areQuiet_50 : decode cX5_areQuiet 50 = .ok (.ifCond .lt 7, 3) := by decide +kernel
theorem dX5_areQuiet_53 : decode cX5_areQuiet 53 = .ok (.iconst 1, 1) := by decide +kernel
theorem dX5_areQuiet_54 : decode cX5_areQuiet 54 = .ok (.goto 4, 3) := by decide +kernel
theorem dX5_areQuiet_57 : decode cX5_areQuiet 57 = .ok (.iconst 0, 1) := by decide +kernel
theorem dX5_areQuiet_58 : decode cX5_areQuiet 58 = .ok (.istore 5, 2) := by decide +kernel
theorem dX5_areQuiet_60 : decode cX5_areQuiet 60 = .ok (.iload_n 2, 1) := by decide +kernel
theorem dX5_areQuiet_61 : decode cX5_areQuiet 61 = .ok (.ifCond .eq 37, 3) := by decide +kernel
theorem dX5_areQuiet_64 : decode cX5_areQuiet 64 = .ok (.iload 5, 2) := by decide +kernel
theorem dX5_areQuiet_66 : decode cX5_areQuiet 66 = .ok (.ifCond .eq 28, 3) := by decide +kernel
theorem dX5_areQuiet_69 : decode cX5_areQuiet 69 = .ok (.aload_n 0, 1) := by decide +kernel
theorem dX5_areQuiet_70 : decode cX5_areQuiet 70 = .ok (.getfield 52, 3) := by decide +kernel
theorem dX5_areQuiet_73 : decode cX5_areQuiet 73 = .ok (.bipush 16, 2) := by decide +kernel
theorem dX5_areQuiet_75 : decode cX5_areQuiet 75 = .ok (.aload_n 0, 1) := by decide +kernel
theorem dX5_areQuiet_76 : decode cX5_areQuiet 76 = .ok (.getfield 16, 3) := by decide +kernel
theorem dX5_areQuiet_79 : decode cX5_areQuiet 79 = .ok (.iload_n 3, 1) := by decide +kernel
theorem dX5_areQuiet_80 : decode cX5_areQuiet 80 = .ok (.iaload, 1) := by decide +kernel
theorem dX5_areQuiet_81 : decode cX5_areQuiet 81 = .ok (.imul, 1) := by decide +kernel
theorem dX5_areQuiet_82 : decode cX5_areQuiet 82 = .ok (.aload_n 0, 1) := by decide +kernel
theorem dX5_areQuiet_83 : decode cX5_areQuiet 83 = .ok (.getfield 16, 3) := by decide +kernel
theorem dX5_areQuiet_86 : decode cX5_areQuiet 86 = .ok (.iload 4, 2) := by decide +kernel
theorem dX5_areQuiet_88 : decode cX5_areQuiet 88 = .ok (.iaload, 1) := by decide +kernel
theorem dX5_areQuiet_89 : decode cX5_areQuiet 89 = .ok (.iadd, 1) := by decide +kernel
theorem dX5_areQuiet_90 : decode cX5_areQuiet 90 = .ok (.iaload, 1) := by decide +kernel
theorem dX5_areQuiet_91 : decode cX5_areQuiet 91 = .ok (.ifCond .ne 7, 3) := by decide +kernel
theorem dX5_areQuiet_94 : decode cX5_areQuiet 94 = .ok (.iconst 1, 1) := by decide +kernel
theorem dX5_areQuiet_95 : decode cX5_areQuiet 95 = .ok (.goto 4, 3) := by decide +kernel
theorem dX5_areQuiet_98 : decode cX5_areQuiet 98 = .ok (.iconst 0, 1) := by decide +kernel
theorem dX5_areQuiet_99 : decode cX5_areQuiet 99 = .ok (.istore_n 2, 1) := by decide +kernel
theorem dX5_areQuiet_100 : decode cX5_areQuiet 100 = .ok (.iinc 4 1, 3) := by decide +kernel
theorem dX5_areQuiet_103 : decode cX5_areQuiet 103 = .ok (.goto (-88), 3) := by decide +kernel
theorem dX5_areQuiet_106 : decode cX5_areQuiet 106 = .ok (.iinc 3 1, 3) := by decide +kernel
theorem dX5_areQuiet_109 : decode cX5_areQuiet 109 = .ok (.goto (-105), 3) := by decide +kernel
theorem dX5_areQuiet_112 : decode cX5_areQuiet 112 = .ok (.iload_n 2, 1) := by decide +kernel
theorem dX5_areQuiet_113 : decode cX5_areQuiet 113 = .ok (.ireturn, 1) := by decide +kernel
theorem dX5_manyOf_0 : decode cX5_manyOf 0 = .ok (.iconst 0, 1) := by decide +kernel
theorem dX5_manyOf_1 : decode cX5_manyOf 1 = .ok (.istore_n 1, 1) := by decide +kernel
theorem dX5_manyOf_2 : decode cX5_manyOf 2 = .ok (.iconst 0, 1) := by decide +kernel
theorem dX5_manyOf_3 : decode cX5_manyOf 3 = .ok (.istore_n 2, 1) := by decide +kernel
theorem dX5_manyOf_4 : decode cX5_manyOf 4 = .ok (.iload_n 2, 1) := by decide +kernel
theorem dX5_manyOf_5 : decode cX5_manyOf 5 = .ok (.bipush 6, 2) := by decide +kernel
theorem dX5_manyOf_7 : decode cX5_manyOf 7 = .ok (.if_icmp .ge 17, 3) := by decide +kernel
theorem dX5_manyOf_10 : decode cX5_manyOf 10 = .ok (.iload_n 1, 1) := by decide +kernel
theorem dX5_manyOf_11 : decode cX5_manyOf 11 = .ok (.iload_n 0, 1) := by decide +kernel
theorem dX5_manyOf_12 : decode cX5_manyOf 12 = .ok (.iload_n 2, 1) := by decide +kernel
theorem dX5_manyOf_13 : decode cX5_manyOf 13 = .ok (.ishr, 1) := by decide +kernel
theorem dX5_manyOf_14 : decode cX5_manyOf 14 = .ok (.iconst 1, 1) := by decide +kernel
theorem dX5_manyOf_15 : decode cX5_manyOf 15 = .ok (.iand, 1) := by decide +kernel
theorem dX5_manyOf_16 : decode cX5_manyOf 16 = .ok (.iadd, 1) := by decide +kernel
theorem dX5_manyOf_17 : decode cX5_manyOf 17 = .ok (.istore_n 1, 1) := by decide +kernel
theorem dX5_manyOf_18 : decode cX5_manyOf 18 = .ok (.iinc 2 1, 3) := by decide +kernel
theorem dX5_manyOf_21 : decode cX5_manyOf 21 = .ok (.goto (-17), 3) := by decide +kernel
theorem dX5_manyOf_24 : decode cX5_manyOf 24 = .ok (.iload_n 1, 1) := by decide +kernel
theorem dX5_manyOf_25 : decode cX5_manyOf 25 = .ok (.ireturn, 1) := by decide +kernel
theorem dX5_reshoot_0 : decode cX5_reshoot 0 = .ok (.aload_n 0, 1) := by decide +kernel
theorem dX5_reshoot_1 : decode cX5_reshoot 1 = .ok (.invokevirtual 111, 3) := by decide +kernel
theorem dX5_reshoot_4 : decode cX5_reshoot 4 = .ok (.iconst 0, 1) := by decide +kernel
theorem dX5_reshoot_5 : decode cX5_reshoot 5 = .ok (.istore_n 1, 1) := by decide +kernel
theorem dX5_reshoot_6 : decode cX5_reshoot 6 = .ok (.bipush 7, 2) := by decide +kernel
theorem dX5_reshoot_8 : decode cX5_reshoot 8 = .ok (.istore_n 2, 1) := by decide +kernel
theorem dX5_reshoot_9 : decode cX5_reshoot 9 = .ok (.iconst 0, 1) := by decide +kernel
theorem dX5_reshoot_10 : decode cX5_reshoot 10 = .ok (.istore_n 3, 1) := by decide +kernel
theorem dX5_reshoot_11 : decode cX5_reshoot 11 = .ok (.iload_n 3, 1) := by decide +kernel
theorem dX5_reshoot_12 : decode cX5_reshoot 12 = .ok (.iconst 1, 1) := by decide +kernel
theorem dX5_reshoot_13 : decode cX5_reshoot 13 = .ok (.aload_n 0, 1) := by decide +kernel
theorem dX5_reshoot_14 : decode cX5_reshoot 14 = .ok (.getfield 64, 3) := by decide +kernel
theorem dX5_reshoot_17 : decode cX5_reshoot 17 = .ok (.ishl, 1) := by decide +kernel
theorem dX5_reshoot_18 : decode cX5_reshoot 18 = .ok (.if_icmp .ge 32, 3) := by decide +kernel
theorem dX5_reshoot_21 : decode cX5_reshoot 21 = .ok (.iload_n 3, 1) := by decide +kernel
theorem dX5_reshoot_22 : decode cX5_reshoot 22 = .ok (.invokestatic 152, 3) := by decide +kernel
theorem dX5_reshoot_25 : decode cX5_reshoot 25 = .ok (.iload_n 2, 1) := by decide +kernel
theorem dX5_reshoot_26 : decode cX5_reshoot 26 = .ok (.if_icmp .ge 18, 3) := by decide +kernel
theorem dX5_reshoot_29 : decode cX5_reshoot 29 = .ok (.aload_n 0, 1) := by decide +kernel
theorem dX5_reshoot_30 : decode cX5_reshoot 30 = .ok (.iload_n 3, 1) := by decide +kernel
theorem dX5_reshoot_31 : decode cX5_reshoot 31 = .ok (.invokevirtual 155, 3) := by decide +kernel
theorem dX5_reshoot_34 : decode cX5_reshoot 34 = .ok (.ifCond .eq 10, 3) := by decide +kernel
theorem dX5_reshoot_37 : decode cX5_reshoot 37 = .ok (.iload_n 3, 1) := by decide +kernel
theorem dX5_reshoot_38 : decode cX5_reshoot 38 = .ok (.invokestatic 152, 3) := by decide +kernel
theorem dX5_reshoot_41 : decode cX5_reshoot 41 = .ok (.istore_n 2, 1) := by decide +kernel
theorem dX5_reshoot_42 : decode cX5_reshoot 42 = .ok (.iload_n 3, 1) := by decide +kernel
theorem dX5_reshoot_43 : decode cX5_reshoot 43 = .ok (.istore_n 1, 1) := by decide +kernel
theorem dX5_reshoot_44 : decode cX5_reshoot 44 = .ok (.iinc 3 1, 3) := by decide +kernel
theorem dX5_reshoot_47 : decode cX5_reshoot 47 = .ok (.goto (-36), 3) := by decide +kernel
theorem dX5_reshoot_50 : decode cX5_reshoot 50 = .ok (.iload_n 1, 1) := by decide +kernel
theorem dX5_reshoot_51 : decode cX5_reshoot 51 = .ok (.ireturn, 1) := by decide +kernel
theorem dX5_clashes_0 : decode cX5_clashes 0 = .ok (.aload_n 0, 1) := by decide +kernel
theorem dX5_clashes_1 : decode cX5_clashes 1 = .ok (.iload_n 1, 1) := by decide +kernel
theorem dX5_clashes_2 : decode cX5_clashes 2 = .ok (.invokevirtual 82, 3) := by decide +kernel
theorem dX5_clashes_5 : decode cX5_clashes 5 = .ok (.ifCond .ne 5, 3) := by decide +kernel
theorem dX5_clashes_8 : decode cX5_clashes 8 = .ok (.iconst (-1), 1) := by decide +kernel
theorem dX5_clashes_9 : decode cX5_clashes 9 = .ok (.ireturn, 1) := by decide +kernel
theorem dX5_clashes_10 : decode cX5_clashes 10 = .ok (.iconst 0, 1) := by decide +kernel
theorem dX5_clashes_11 : decode cX5_clashes 11 = .ok (.istore_n 2, 1) := by decide +kernel
theorem dX5_clashes_12 : decode cX5_clashes 12 = .ok (.iconst 0, 1) := by decide +kernel
theorem dX5_clashes_13 : decode cX5_clashes 13 = .ok (.istore_n 3, 1) := by decide +kernel
theorem dX5_clashes_14 : decode cX5_clashes 14 = .ok (.iload_n 3, 1) := by decide +kernel
theorem dX5_clashes_15 : decode cX5_clashes 15 = .ok (.aload_n 0, 1) := by decide +kernel
theorem dX5_clashes_16 : decode cX5_clashes 16 = .ok (.getfield 64, 3) := by decide +kernel
theorem dX5_clashes_19 : decode cX5_clashes 19 = .ok (.if_icmp .ge 72, 3) := by decide +kernel
theorem dX5_clashes_22 : decode cX5_clashes 22 = .ok (.iconst 0, 1) := by decide +kernel
theorem dX5_clashes_23 : decode cX5_clashes 23 = .ok (.istore 4, 2) := by decide +kernel
theorem dX5_clashes_25 : decode cX5_clashes 25 = .ok (.iload 4, 2) := by decide +kernel
theorem dX5_clashes_27 : decode cX5_clashes 27 = .ok (.iload_n 3, 1) := by decide +kernel
theorem dX5_clashes_28 : decode cX5_clashes 28 = .ok (.if_icmp .ge 57, 3) := by decide +kernel
theorem dX5_clashes_31 : decode cX5_clashes 31 = .ok (.iload_n 2, 1) := by decide +kernel
theorem dX5_clashes_32 : decode cX5_clashes 32 = .ok (.aload_n 0, 1) := by decide +kernel
theorem dX5_clashes_33 : decode cX5_clashes 33 = .ok (.getfield 16, 3) := by decide +kernel
theorem dX5_clashes_36 : decode cX5_clashes 36 = .ok (.iload_n 3, 1) := by decide +kernel
theorem dX5_clashes_37 : decode cX5_clashes 37 = .ok (.iaload, 1) := by decide +kernel
theorem dX5_clashes_38 : decode cX5_clashes 38 = .ok (.ifCond .lt 38, 3) := by decide +kernel
theorem dX5_clashes_41 : decode cX5_clashes 41 = .ok (.aload_n 0, 1) := by decide +kernel
theorem dX5_clashes_42 : decode cX5_clashes 42 = .ok (.getfield 16, 3) := by decide +kernel
theorem dX5_clashes_45 : decode cX5_clashes 45 = .ok (.iload 4, 2) := by decide +kernel
theorem dX5_clashes_47 : decode cX5_clashes 47 = .ok (.iaload, 1) := by decide +kernel
theorem dX5_clashes_48 : decode cX5_clashes 48 = .ok (.ifCond .lt 28, 3) := by decide +kernel
theorem dX5_clashes_51 : decode cX5_clashes 51 = .ok (.aload_n 0, 1) := by decide +kernel
theorem dX5_clashes_52 : decode cX5_clashes 52 = .ok (.aload_n 0, 1) := by decide +kernel
theorem dX5_clashes_53 : decode cX5_clashes 53 = .ok (.getfield 16, 3) := by decide +kernel
theorem dX5_clashes_56 : decode cX5_clashes 56 = .ok (.iload_n 3, 1) := by decide +kernel
theorem dX5_clashes_57 : decode cX5_clashes 57 = .ok (.iaload, 1) := by decide +kernel
theorem dX5_clashes_58 : decode cX5_clashes 58 = .ok (.aload_n 0, 1) := by decide +kernel
theorem dX5_clashes_59 : decode cX5_clashes 59 = .ok (.getfield 16, 3) := by decide +kernel
theorem dX5_clashes_62 : decode cX5_clashes 62 = .ok (.iload 4, 2) := by decide +kernel
theorem dX5_clashes_64 : decode cX5_clashes 64 = .ok (.iaload, 1) := by decide +kernel
theorem dX5_clashes_65 : decode cX5_clashes 65 = .ok (.iload_n 1, 1) := by decide +kernel
theorem dX5_clashes_66 : decode cX5_clashes 66 = .ok (.invokevirtual 104, 3) := by decide +kernel
theorem dX5_clashes_69 : decode cX5_clashes 69 = .ok (.ifCond .eq 7, 3) := by decide +kernel
theorem dX5_clashes_72 : decode cX5_clashes 72 = .ok (.iconst 1, 1) := by decide +kernel
theorem dX5_clashes_73 : decode cX5_clashes 73 = .ok (.goto 4, 3) := by decide +kernel
theorem dX5_clashes_76 : decode cX5_clashes 76 = .ok (.iconst 0, 1) := by decide +kernel
theorem dX5_clashes_77 : decode cX5_clashes 77 = .ok (.iadd, 1) := by decide +kernel
theorem dX5_clashes_78 : decode cX5_clashes 78 = .ok (.istore_n 2, 1) := by decide +kernel
theorem dX5_clashes_79 : decode cX5_clashes 79 = .ok (.iinc 4 1, 3) := by decide +kernel
theorem dX5_clashes_82 : decode cX5_clashes 82 = .ok (.goto (-57), 3) := by decide +kernel
theorem dX5_clashes_85 : decode cX5_clashes 85 = .ok (.iinc 3 1, 3) := by decide +kernel
theorem dX5_clashes_88 : decode cX5_clashes 88 = .ok (.goto (-74), 3) := by decide +kernel
theorem dX5_clashes_91 : decode cX5_clashes 91 = .ok (.iload_n 2, 1) := by decide +kernel
theorem dX5_clashes_92 : decode cX5_clashes 92 = .ok (.ireturn, 1) := by decide +kernel
theorem dX5_pairs_0 : decode cX5_pairs 0 = .ok (.iconst 0, 1) := by decide +kernel
theorem dX5_pairs_1 : decode cX5_pairs 1 = .ok (.istore_n 1, 1) := by decide +kernel
theorem dX5_pairs_2 : decode cX5_pairs 2 = .ok (.iconst 0, 1) := by decide +kernel
theorem dX5_pairs_3 : decode cX5_pairs 3 = .ok (.istore_n 2, 1) := by decide +kernel
theorem dX5_pairs_4 : decode cX5_pairs 4 = .ok (.iload_n 2, 1) := by decide +kernel
theorem dX5_pairs_5 : decode cX5_pairs 5 = .ok (.aload_n 0, 1) := by decide +kernel
theorem dX5_pairs_6 : decode cX5_pairs 6 = .ok (.getfield 75, 3) := by decide +kernel
theorem dX5_pairs_9 : decode cX5_pairs 9 = .ok (.if_icmp .ge 39, 3) := by decide +kernel
theorem dX5_pairs_12 : decode cX5_pairs 12 = .ok (.iconst 0, 1) := by decide +kernel
theorem dX5_pairs_13 : decode cX5_pairs 13 = .ok (.istore_n 3, 1) := by decide +kernel
theorem dX5_pairs_14 : decode cX5_pairs 14 = .ok (.iload_n 3, 1) := by decide +kernel
theorem dX5_pairs_15 : decode cX5_pairs 15 = .ok (.iload_n 2, 1) := by decide +kernel
theorem dX5_pairs_16 : decode cX5_pairs 16 = .ok (.if_icmp .ge 26, 3) := by decide +kernel
theorem dX5_pairs_19 : decode cX5_pairs 19 = .ok (.iload_n 1, 1) := by decide +kernel
theorem dX5_pairs_20 : decode cX5_pairs 20 = .ok (.aload_n 0, 1) := by decide +kernel
theorem dX5_pairs_21 : decode cX5_pairs 21 = .ok (.iload_n 2, 1) := by decide +kernel
theorem dX5_pairs_22 : decode cX5_pairs 22 = .ok (.iload_n 3, 1) := by decide +kernel
theorem dX5_pairs_23 : decode cX5_pairs 23 = .ok (.invokevirtual 107, 3) := by decide +kernel
theorem dX5_pairs_26 : decode cX5_pairs 26 = .ok (.ifCond .le 7, 3) := by decide +kernel
theorem dX5_pairs_29 : decode cX5_pairs 29 = .ok (.iconst 1, 1) := by decide +kernel
theorem dX5_pairs_30 : decode cX5_pairs 30 = .ok (.goto 4, 3) := by decide +kernel
theorem dX5_pairs_33 : decode cX5_pairs 33 = .ok (.iconst 0, 1) := by decide +kernel
theorem dX5_pairs_34 : decode cX5_pairs 34 = .ok (.iadd, 1) := by decide +kernel
theorem dX5_pairs_35 : decode cX5_pairs 35 = .ok (.istore_n 1, 1) := by decide +kernel
theorem dX5_pairs_36 : decode cX5_pairs 36 = .ok (.iinc 3 1, 3) := by decide +kernel
theorem dX5_pairs_39 : decode cX5_pairs 39 = .ok (.goto (-25), 3) := by decide +kernel
theorem dX5_pairs_42 : decode cX5_pairs 42 = .ok (.iinc 2 1, 3) := by decide +kernel
theorem dX5_pairs_45 : decode cX5_pairs 45 = .ok (.goto (-41), 3) := by decide +kernel
theorem dX5_pairs_48 : decode cX5_pairs 48 = .ok (.iload_n 1, 1) := by decide +kernel
theorem dX5_pairs_49 : decode cX5_pairs 49 = .ok (.ireturn, 1) := by decide +kernel
theorem dX5_withChosen_0 : decode cX5_withChosen 0 = .ok (.iconst 0, 1) := by decide +kernel
theorem dX5_withChosen_1 : decode cX5_withChosen 1 = .ok (.istore_n 1, 1) := by decide +kernel
theorem dX5_withChosen_2 : decode cX5_withChosen 2 = .ok (.iconst 0, 1) := by decide +kernel
theorem dX5_withChosen_3 : decode cX5_withChosen 3 = .ok (.istore_n 2, 1) := by decide +kernel
theorem dX5_withChosen_4 : decode cX5_withChosen 4 = .ok (.iload_n 2, 1) := by decide +kernel
theorem dX5_withChosen_5 : decode cX5_withChosen 5 = .ok (.aload_n 0, 1) := by decide +kernel
theorem dX5_withChosen_6 : decode cX5_withChosen 6 = .ok (.getfield 64, 3) := by decide +kernel
theorem dX5_withChosen_9 : decode cX5_withChosen 9 = .ok (.if_icmp .ge 26, 3) := by decide +kernel
theorem dX5_withChosen_12 : decode cX5_withChosen 12 = .ok (.iload_n 1, 1) := by decide +kernel
theorem dX5_withChosen_13 : decode cX5_withChosen 13 = .ok (.aload_n 0, 1) := by decide +kernel
theorem dX5_withChosen_14 : decode cX5_withChosen 14 = .ok (.getfield 16, 3) := by decide +kernel
theorem dX5_withChosen_17 : decode cX5_withChosen 17 = .ok (.iload_n 2, 1) := by decide +kernel
theorem dX5_withChosen_18 : decode cX5_withChosen 18 = .ok (.iaload, 1) := by decide +kernel
theorem dX5_withChosen_19 : decode cX5_withChosen 19 = .ok (.ifCond .lt 7, 3) := by decide +kernel
theorem dX5_withChosen_22 : decode cX5_withChosen 22 = .ok (.iconst 1, 1) := by decide +kernel
theorem dX5_withChosen_23 : decode cX5_withChosen 23 = .ok (.goto 4, 3) := by decide +kernel
theorem dX5_withChosen_26 : decode cX5_withChosen 26 = .ok (.iconst 0, 1) := by decide +kernel
theorem dX5_withChosen_27 : decode cX5_withChosen 27 = .ok (.iadd, 1) := by decide +kernel
theorem dX5_withChosen_28 : decode cX5_withChosen 28 = .ok (.istore_n 1, 1) := by decide +kernel
theorem dX5_withChosen_29 : decode cX5_withChosen 29 = .ok (.iinc 2 1, 3) := by decide +kernel
theorem dX5_withChosen_32 : decode cX5_withChosen 32 = .ok (.goto (-28), 3) := by decide +kernel
theorem dX5_withChosen_35 : decode cX5_withChosen 35 = .ok (.iload_n 1, 1) := by decide +kernel
theorem dX5_withChosen_36 : decode cX5_withChosen 36 = .ok (.ireturn, 1) := by decide +kernel
theorem dX5_many_0 : decode cX5_many 0 = .ok (.iload_n 1, 1) := by decide +kernel
theorem dX5_many_1 : decode cX5_many 1 = .ok (.tableswitch 60 0 4 #[35, 40, 45, 50, 55], 35) := by decide +kernel
theorem dX5_many_36 : decode cX5_many 36 = .ok (.aload_n 0, 1) := by decide +kernel
theorem dX5_many_37 : decode cX5_many 37 = .ok (.getfield 64, 3) := by decide +kernel
theorem dX5_many_40 : decode cX5_many 40 = .ok (.ireturn, 1) := by decide +kernel
theorem dX5_many_41 : decode cX5_many 41 = .ok (.aload_n 0, 1) := by decide +kernel
theorem dX5_many_42 : decode cX5_many 42 = .ok (.getfield 72, 3) := by decide +kernel
theorem dX5_many_45 : decode cX5_many 45 = .ok (.ireturn, 1) := by decide +kernel
theorem dX5_many_46 : decode cX5_many 46 = .ok (.aload_n 0, 1) := by decide +kernel
theorem dX5_many_47 : decode cX5_many 47 = .ok (.getfield 75, 3) := by decide +kernel
theorem dX5_many_50 : decode cX5_many 50 = .ok (.ireturn, 1) := by decide +kernel
theorem dX5_many_51 : decode cX5_many 51 = .ok (.aload_n 0, 1) := by decide +kernel
theorem dX5_many_52 : decode cX5_many 52 = .ok (.invokevirtual 158, 3) := by decide +kernel
theorem dX5_many_55 : decode cX5_many 55 = .ok (.ireturn, 1) := by decide +kernel
theorem dX5_many_56 : decode cX5_many 56 = .ok (.aload_n 0, 1) := by decide +kernel
theorem dX5_many_57 : decode cX5_many 57 = .ok (.invokevirtual 162, 3) := by decide +kernel
theorem dX5_many_60 : decode cX5_many 60 = .ok (.ireturn, 1) := by decide +kernel
theorem dX5_many_61 : decode cX5_many 61 = .ok (.iconst (-1), 1) := by decide +kernel
theorem dX5_many_62 : decode cX5_many 62 = .ok (.ireturn, 1) := by decide +kernel
theorem dX5_copy_0 : decode cX5_copy 0 = .ok (.iconst 0, 1) := by decide +kernel
theorem dX5_copy_1 : decode cX5_copy 1 = .ok (.istore 5, 2) := by decide +kernel
theorem dX5_copy_3 : decode cX5_copy 3 = .ok (.iload 5, 2) := by decide +kernel
theorem dX5_copy_5 : decode cX5_copy 5 = .ok (.iload 4, 2) := by decide +kernel
theorem dX5_copy_7 : decode cX5_copy 7 = .ok (.if_icmp .ge 21, 3) := by decide +kernel
theorem dX5_copy_10 : decode cX5_copy 10 = .ok (.aload_n 2, 1) := by decide +kernel
theorem dX5_copy_11 : decode cX5_copy 11 = .ok (.iload_n 3, 1) := by decide +kernel
theorem dX5_copy_12 : decode cX5_copy 12 = .ok (.iload 5, 2) := by decide +kernel
theorem dX5_copy_14 : decode cX5_copy 14 = .ok (.iadd, 1) := by decide +kernel
theorem dX5_copy_15 : decode cX5_copy 15 = .ok (.aload_n 0, 1) := by decide +kernel
theorem dX5_copy_16 : decode cX5_copy 16 = .ok (.iload_n 1, 1) := by decide +kernel
theorem dX5_copy_17 : decode cX5_copy 17 = .ok (.iload 5, 2) := by decide +kernel
theorem dX5_copy_19 : decode cX5_copy 19 = .ok (.iadd, 1) := by decide +kernel
theorem dX5_copy_20 : decode cX5_copy 20 = .ok (.iaload, 1) := by decide +kernel
theorem dX5_copy_21 : decode cX5_copy 21 = .ok (.iastore, 1) := by decide +kernel
theorem dX5_copy_22 : decode cX5_copy 22 = .ok (.iinc 5 1, 3) := by decide +kernel
theorem dX5_copy_25 : decode cX5_copy 25 = .ok (.goto (-22), 3) := by decide +kernel
theorem dX5_copy_28 : decode cX5_copy 28 = .ok (.return_, 1) := by decide +kernel
theorem dX5_keep_0 : decode cX5_keep 0 = .ok (.aload_n 0, 1) := by decide +kernel
theorem dX5_keep_1 : decode cX5_keep 1 = .ok (.iconst 1, 1) := by decide +kernel
theorem dX5_keep_2 : decode cX5_keep 2 = .ok (.putfield 165, 3) := by decide +kernel
theorem dX5_keep_5 : decode cX5_keep 5 = .ok (.aload_n 0, 1) := by decide +kernel
theorem dX5_keep_6 : decode cX5_keep 6 = .ok (.getfield 37, 3) := by decide +kernel
theorem dX5_keep_9 : decode cX5_keep 9 = .ok (.iconst 0, 1) := by decide +kernel
theorem dX5_keep_10 : decode cX5_keep 10 = .ok (.aload_n 0, 1) := by decide +kernel
theorem dX5_keep_11 : decode cX5_keep 11 = .ok (.getfield 64, 3) := by decide +kernel
theorem dX5_keep_14 : decode cX5_keep 14 = .ok (.iastore, 1) := by decide +kernel
theorem dX5_keep_15 : decode cX5_keep 15 = .ok (.aload_n 0, 1) := by decide +kernel
theorem dX5_keep_16 : decode cX5_keep 16 = .ok (.getfield 37, 3) := by decide +kernel
theorem dX5_keep_19 : decode cX5_keep 19 = .ok (.iconst 1, 1) := by decide +kernel
theorem dX5_keep_20 : decode cX5_keep 20 = .ok (.aload_n 0, 1) := by decide +kernel
theorem dX5_keep_21 : decode cX5_keep 21 = .ok (.getfield 72, 3) := by decide +kernel
theorem dX5_keep_24 : decode cX5_keep 24 = .ok (.iastore, 1) := by decide +kernel
theorem dX5_keep_25 : decode cX5_keep 25 = .ok (.aload_n 0, 1) := by decide +kernel
theorem dX5_keep_26 : decode cX5_keep 26 = .ok (.getfield 37, 3) := by decide +kernel
theorem dX5_keep_29 : decode cX5_keep 29 = .ok (.iconst 2, 1) := by decide +kernel
theorem dX5_keep_30 : decode cX5_keep 30 = .ok (.aload_n 0, 1) := by decide +kernel
theorem dX5_keep_31 : decode cX5_keep 31 = .ok (.getfield 75, 3) := by decide +kernel
theorem dX5_keep_34 : decode cX5_keep 34 = .ok (.iastore, 1) := by decide +kernel
theorem dX5_keep_35 : decode cX5_keep 35 = .ok (.aload_n 0, 1) := by decide +kernel
theorem dX5_keep_36 : decode cX5_keep 36 = .ok (.getfield 7, 3) := by decide +kernel
theorem dX5_keep_39 : decode cX5_keep 39 = .ok (.iconst 0, 1) := by decide +kernel
theorem dX5_keep_40 : decode cX5_keep 40 = .ok (.aload_n 0, 1) := by decide +kernel
theorem dX5_keep_41 : decode cX5_keep 41 = .ok (.getfield 40, 3) := by decide +kernel
theorem dX5_keep_44 : decode cX5_keep 44 = .ok (.iconst 0, 1) := by decide +kernel
theorem dX5_keep_45 : decode cX5_keep 45 = .ok (.bipush 6, 2) := by decide +kernel
theorem dX5_keep_47 : decode cX5_keep 47 = .ok (.invokestatic 169, 3) := by decide +kernel
theorem dX5_keep_50 : decode cX5_keep 50 = .ok (.aload_n 0, 1) := by decide +kernel
theorem dX5_keep_51 : decode cX5_keep 51 = .ok (.getfield 13, 3) := by decide +kernel
theorem dX5_keep_54 : decode cX5_keep 54 = .ok (.iconst 0, 1) := by decide +kernel
theorem dX5_keep_55 : decode cX5_keep 55 = .ok (.aload_n 0, 1) := by decide +kernel
theorem dX5_keep_56 : decode cX5_keep 56 = .ok (.getfield 40, 3) := by decide +kernel
theorem dX5_keep_59 : decode cX5_keep 59 = .ok (.bipush 6, 2) := by decide +kernel
theorem dX5_keep_61 : decode cX5_keep 61 = .ok (.bipush 6, 2) := by decide +kernel
theorem dX5_keep_63 : decode cX5_keep 63 = .ok (.invokestatic 169, 3) := by decide +kernel
theorem dX5_keep_66 : decode cX5_keep 66 = .ok (.aload_n 0, 1) := by decide +kernel
theorem dX5_keep_67 : decode cX5_keep 67 = .ok (.getfield 16, 3) := by decide +kernel
theorem dX5_keep_70 : decode cX5_keep 70 = .ok (.iconst 0, 1) := by decide +kernel
theorem dX5_keep_71 : decode cX5_keep 71 = .ok (.aload_n 0, 1) := by decide +kernel
theorem dX5_keep_72 : decode cX5_keep 72 = .ok (.getfield 40, 3) := by decide +kernel
theorem dX5_keep_75 : decode cX5_keep 75 = .ok (.bipush 12, 2) := by decide +kernel
theorem dX5_keep_77 : decode cX5_keep 77 = .ok (.bipush 6, 2) := by decide +kernel
theorem dX5_keep_79 : decode cX5_keep 79 = .ok (.invokestatic 169, 3) := by decide +kernel
theorem dX5_keep_82 : decode cX5_keep 82 = .ok (.aload_n 0, 1) := by decide +kernel
theorem dX5_keep_83 : decode cX5_keep 83 = .ok (.getfield 19, 3) := by decide +kernel
theorem dX5_keep_86 : decode cX5_keep 86 = .ok (.iconst 0, 1) := by decide +kernel
theorem dX5_keep_87 : decode cX5_keep 87 = .ok (.aload_n 0, 1) := by decide +kernel
theorem dX5_keep_88 : decode cX5_keep 88 = .ok (.getfield 40, 3) := by decide +kernel
theorem dX5_keep_91 : decode cX5_keep 91 = .ok (.bipush 18, 2) := by decide +kernel
theorem dX5_keep_93 : decode cX5_keep 93 = .ok (.bipush 6, 2) := by decide +kernel
theorem dX5_keep_95 : decode cX5_keep 95 = .ok (.invokestatic 169, 3) := by decide +kernel
theorem dX5_keep_98 : decode cX5_keep 98 = .ok (.aload_n 0, 1) := by decide +kernel
theorem dX5_keep_99 : decode cX5_keep 99 = .ok (.getfield 22, 3) := by decide +kernel
theorem dX5_keep_102 : decode cX5_keep 102 = .ok (.iconst 0, 1) := by decide +kernel
theorem dX5_keep_103 : decode cX5_keep 103 = .ok (.aload_n 0, 1) := by decide +kernel
theorem dX5_keep_104 : decode cX5_keep 104 = .ok (.getfield 40, 3) := by decide +kernel
theorem dX5_keep_107 : decode cX5_keep 107 = .ok (.bipush 24, 2) := by decide +kernel
theorem dX5_keep_109 : decode cX5_keep 109 = .ok (.bipush 6, 2) := by decide +kernel
theorem dX5_keep_111 : decode cX5_keep 111 = .ok (.invokestatic 169, 3) := by decide +kernel
theorem dX5_keep_114 : decode cX5_keep 114 = .ok (.aload_n 0, 1) := by decide +kernel
theorem dX5_keep_115 : decode cX5_keep 115 = .ok (.getfield 25, 3) := by decide +kernel
theorem dX5_keep_118 : decode cX5_keep 118 = .ok (.iconst 0, 1) := by decide +kernel
theorem dX5_keep_119 : decode cX5_keep 119 = .ok (.aload_n 0, 1) := by decide +kernel
theorem dX5_keep_120 : decode cX5_keep 120 = .ok (.getfield 40, 3) := by decide +kernel
theorem dX5_keep_123 : decode cX5_keep 123 = .ok (.bipush 30, 2) := by decide +kernel
theorem dX5_keep_125 : decode cX5_keep 125 = .ok (.bipush 6, 2) := by decide +kernel
theorem dX5_keep_127 : decode cX5_keep 127 = .ok (.invokestatic 169, 3) := by decide +kernel
theorem dX5_keep_130 : decode cX5_keep 130 = .ok (.aload_n 0, 1) := by decide +kernel
theorem dX5_keep_131 : decode cX5_keep 131 = .ok (.getfield 28, 3) := by decide +kernel
theorem dX5_keep_134 : decode cX5_keep 134 = .ok (.iconst 0, 1) := by decide +kernel
theorem dX5_keep_135 : decode cX5_keep 135 = .ok (.aload_n 0, 1) := by decide +kernel
theorem dX5_keep_136 : decode cX5_keep 136 = .ok (.getfield 43, 3) := by decide +kernel
theorem dX5_keep_139 : decode cX5_keep 139 = .ok (.iconst 0, 1) := by decide +kernel
theorem dX5_keep_140 : decode cX5_keep 140 = .ok (.bipush 16, 2) := by decide +kernel
theorem dX5_keep_142 : decode cX5_keep 142 = .ok (.invokestatic 169, 3) := by decide +kernel
theorem dX5_keep_145 : decode cX5_keep 145 = .ok (.aload_n 0, 1) := by decide +kernel
theorem dX5_keep_146 : decode cX5_keep 146 = .ok (.getfield 31, 3) := by decide +kernel
theorem dX5_keep_149 : decode cX5_keep 149 = .ok (.iconst 0, 1) := by decide +kernel
theorem dX5_keep_150 : decode cX5_keep 150 = .ok (.aload_n 0, 1) := by decide +kernel
theorem dX5_keep_151 : decode cX5_keep 151 = .ok (.getfield 43, 3) := by decide +kernel
theorem dX5_keep_154 : decode cX5_keep 154 = .ok (.bipush 16, 2) := by decide +kernel
theorem dX5_keep_156 : decode cX5_keep 156 = .ok (.bipush 16, 2) := by decide +kernel
theorem dX5_keep_158 : decode cX5_keep 158 = .ok (.invokestatic 169, 3) := by decide +kernel
theorem dX5_keep_161 : decode cX5_keep 161 = .ok (.aload_n 0, 1) := by decide +kernel
theorem dX5_keep_162 : decode cX5_keep 162 = .ok (.getfield 34, 3) := by decide +kernel
theorem dX5_keep_165 : decode cX5_keep 165 = .ok (.iconst 0, 1) := by decide +kernel
theorem dX5_keep_166 : decode cX5_keep 166 = .ok (.aload_n 0, 1) := by decide +kernel
theorem dX5_keep_167 : decode cX5_keep 167 = .ok (.getfield 43, 3) := by decide +kernel
theorem dX5_keep_170 : decode cX5_keep 170 = .ok (.bipush 32, 2) := by decide +kernel
theorem dX5_keep_172 : decode cX5_keep 172 = .ok (.bipush 96, 2) := by decide +kernel
theorem dX5_keep_174 : decode cX5_keep 174 = .ok (.invokestatic 169, 3) := by decide +kernel
theorem dX5_keep_177 : decode cX5_keep 177 = .ok (.iconst 1, 1) := by decide +kernel
theorem dX5_keep_178 : decode cX5_keep 178 = .ok (.ireturn, 1) := by decide +kernel
theorem dX5_back_0 : decode cX5_back 0 = .ok (.aload_n 0, 1) := by decide +kernel
theorem dX5_back_1 : decode cX5_back 1 = .ok (.getfield 165, 3) := by decide +kernel
theorem dX5_back_4 : decode cX5_back 4 = .ok (.ifCond .ne 6, 3) := by decide +kernel
theorem dX5_back_7 : decode cX5_back 7 = .ok (.bipush (-4), 2) := by decide +kernel
theorem dX5_back_9 : decode cX5_back 9 = .ok (.ireturn, 1) := by decide +kernel
theorem dX5_back_10 : decode cX5_back 10 = .ok (.aload_n 0, 1) := by decide +kernel
theorem dX5_back_11 : decode cX5_back 11 = .ok (.aload_n 0, 1) := by decide +kernel
theorem dX5_back_12 : decode cX5_back 12 = .ok (.getfield 37, 3) := by decide +kernel
theorem dX5_back_15 : decode cX5_back 15 = .ok (.iconst 0, 1) := by decide +kernel
theorem dX5_back_16 : decode cX5_back 16 = .ok (.iaload, 1) := by decide +kernel
theorem dX5_back_17 : decode cX5_back 17 = .ok (.putfield 64, 3) := by decide +kernel
theorem dX5_back_20 : decode cX5_back 20 = .ok (.aload_n 0, 1) := by decide +kernel
theorem dX5_back_21 : decode cX5_back 21 = .ok (.aload_n 0, 1) := by decide +kernel
theorem dX5_back_22 : decode cX5_back 22 = .ok (.getfield 37, 3) := by decide +kernel
theorem dX5_back_25 : decode cX5_back 25 = .ok (.iconst 1, 1) := by decide +kernel
theorem dX5_back_26 : decode cX5_back 26 = .ok (.iaload, 1) := by decide +kernel
theorem dX5_back_27 : decode cX5_back 27 = .ok (.putfield 72, 3) := by decide +kernel
theorem dX5_back_30 : decode cX5_back 30 = .ok (.aload_n 0, 1) := by decide +kernel
theorem dX5_back_31 : decode cX5_back 31 = .ok (.aload_n 0, 1) := by decide +kernel
theorem dX5_back_32 : decode cX5_back 32 = .ok (.getfield 37, 3) := by decide +kernel
theorem dX5_back_35 : decode cX5_back 35 = .ok (.iconst 2, 1) := by decide +kernel
end
section
theorem dX5_back_36 : decode cX5_back 36 = .ok (.iaload, 1) := by decide +kernel
theorem dX5_back_37 : decode cX5_back 37 = .ok (.putfield 75, 3) := by decide +kernel
theorem dX5_back_40 : decode cX5_back 40 = .ok (.aload_n 0, 1) := by decide +kernel
theorem dX5_back_41 : decode cX5_back 41 = .ok (.getfield 40, 3) := by decide +kernel
theorem dX5_back_44 : decode cX5_back 44 = .ok (.iconst 0, 1) := by decide +kernel
theorem dX5_back_45 : decode cX5_back 45 = .ok (.aload_n 0, 1) := by decide +kernel
theorem dX5_back_46 : decode cX5_back 46 = .ok (.getfield 7, 3) := by decide +kernel
theorem dX5_back_49 : decode cX5_back 49 = .ok (.iconst 0, 1) := by decide +kernel
theorem dX5_back_50 : decode cX5_back 50 = .ok (.bipush 6, 2) := by decide +kernel
theorem dX5_back_52 : decode cX5_back 52 = .ok (.invokestatic 169, 3) := by decide +kernel
theorem dX5_back_55 : decode cX5_back 55 = .ok (.aload_n 0, 1) := by decide +kernel
theorem dX5_back_56 : decode cX5_back 56 = .ok (.getfield 40, 3) := by decide +kernel
theorem dX5_back_59 : decode cX5_back 59 = .ok (.bipush 6, 2) := by decide +kernel
theorem dX5_back_61 : decode cX5_back 61 = .ok (.aload_n 0, 1) := by decide +kernel
theorem dX5_back_62 : decode cX5_back 62 = .ok (.getfield 13, 3) := by decide +kernel
theorem dX5_back_65 : decode cX5_back 65 = .ok (.iconst 0, 1) := by decide +kernel
theorem dX5_back_66 : decode cX5_back 66 = .ok (.bipush 6, 2) := by decide +kernel
theorem dX5_back_68 : decode cX5_back 68 = .ok (.invokestatic 169, 3) := by decide +kernel
theorem dX5_back_71 : decode cX5_back 71 = .ok (.aload_n 0, 1) := by decide +kernel
theorem dX5_back_72 : decode cX5_back 72 = .ok (.getfield 40, 3) := by decide +kernel
theorem dX5_back_75 : decode cX5_back 75 = .ok (.bipush 12, 2) := by decide +kernel
theorem dX5_back_77 : decode cX5_back 77 = .ok (.aload_n 0, 1) := by decide +kernel
theorem dX5_back_78 : decode cX5_back 78 = .ok (.getfield 16, 3) := by decide +kernel
theorem dX5_back_81 : decode cX5_back 81 = .ok (.iconst 0, 1) := by decide +kernel
theorem dX5_back_82 : decode cX5_back 82 = .ok (.bipush 6, 2) := by decide +kernel
theorem dX5_back_84 : decode cX5_back 84 = .ok (.invokestatic 169, 3) := by decide +kernel
theorem dX5_back_87 : decode cX5_back 87 = .ok (.aload_n 0, 1) := by decide +kernel
theorem dX5_back_88 : decode cX5_back 88 = .ok (.getfield 40, 3) := by decide +kernel
theorem dX5_back_91 : decode cX5_back 91 = .ok (.bipush 18, 2) := by decide +kernel
theorem dX5_back_93 : decode cX5_back 93 = .ok (.aload_n 0, 1) := by decide +kernel
theorem dX5_back_94 : decode cX5_back 94 = .ok (.getfield 19, 3) := by decide +kernel
theorem dX5_back_97 : decode cX5_back 97 = .ok (.iconst 0, 1) := by decide +kernel
theorem dX5_back_98 : decode cX5_back 98 = .ok (.bipush 6, 2) := by decide +kernel
theorem dX5_back_100 : decode cX5_back 100 = .ok (.invokestatic 169, 3) := by decide +kernel
theorem dX5_back_103 : decode cX5_back 103 = .ok (.aload_n 0, 1) := by decide +kernel
theorem dX5_back_104 : decode cX5_back 104 = .ok (.getfield 40, 3) := by decide +kernel
theorem dX5_back_107 : decode cX5_back 107 = .ok (.bipush 24, 2) := by decide +kernel
theorem dX5_back_109 : decode cX5_back 109 = .ok (.aload_n 0, 1) := by decide +kernel
theorem dX5_back_110 : decode cX5_back 110 = .ok (.getfield 22, 3) := by decide +kernel
theorem dX5_back_113 : decode cX5_back 113 = .ok (.iconst 0, 1) := by decide +kernel
theorem dX5_back_114 : decode cX5_back 114 = .ok (.bipush 6, 2) := by decide +kernel
theorem dX5_back_116 : decode cX5_back 116 = .ok (.invokestatic 169, 3) := by decide +kernel
theorem dX5_back_119 : decode cX5_back 119 = .ok (.aload_n 0, 1) := by decide +kernel
theorem dX5_back_120 : decode cX5_back 120 = .ok (.getfield 40, 3) := by decide +kernel
theorem dX5_back_123 : decode cX5_back 123 = .ok (.bipush 30, 2) := by decide +kernel
theorem dX5_back_125 : decode cX5_back 125 = .ok (.aload_n 0, 1) := by decide +kernel
theorem dX5_back_126 : decode cX5_back 126 = .ok (.getfield 25, 3) := by decide +kernel
theorem dX5_back_129 : decode cX5_back 129 = .ok (.iconst 0, 1) := by decide +kernel
theorem dX5_back_130 : decode cX5_back 130 = .ok (.bipush 6, 2) := by decide +kernel
theorem dX5_back_132 : decode cX5_back 132 = .ok (.invokestatic 169, 3) := by decide +kernel
theorem dX5_back_135 : decode cX5_back 135 = .ok (.aload_n 0, 1) := by decide +kernel
theorem dX5_back_136 : decode cX5_back 136 = .ok (.getfield 43, 3) := by decide +kernel
theorem dX5_back_139 : decode cX5_back 139 = .ok (.iconst 0, 1) := by decide +kernel
theorem dX5_back_140 : decode cX5_back 140 = .ok (.aload_n 0, 1) := by decide +kernel
theorem dX5_back_141 : decode cX5_back 141 = .ok (.getfield 28, 3) := by decide +kernel
theorem dX5_back_144 : decode cX5_back 144 = .ok (.iconst 0, 1) := by decide +kernel
theorem dX5_back_145 : decode cX5_back 145 = .ok (.bipush 16, 2) := by decide +kernel
theorem dX5_back_147 : decode cX5_back 147 = .ok (.invokestatic 169, 3) := by decide +kernel
theorem dX5_back_150 : decode cX5_back 150 = .ok (.aload_n 0, 1) := by decide +kernel
theorem dX5_back_151 : decode cX5_back 151 = .ok (.getfield 43, 3) := by decide +kernel
theorem dX5_back_154 : decode cX5_back 154 = .ok (.bipush 16, 2) := by decide +kernel
theorem dX5_back_156 : decode cX5_back 156 = .ok (.aload_n 0, 1) := by decide +kernel
theorem dX5_back_157 : decode cX5_back 157 = .ok (.getfield 31, 3) := by decide +kernel
theorem dX5_back_160 : decode cX5_back 160 = .ok (.iconst 0, 1) := by decide +kernel
theorem dX5_back_161 : decode cX5_back 161 = .ok (.bipush 16, 2) := by decide +kernel
theorem dX5_back_163 : decode cX5_back 163 = .ok (.invokestatic 169, 3) := by decide +kernel
theorem dX5_back_166 : decode cX5_back 166 = .ok (.aload_n 0, 1) := by decide +kernel
theorem dX5_back_167 : decode cX5_back 167 = .ok (.getfield 43, 3) := by decide +kernel
theorem dX5_back_170 : decode cX5_back 170 = .ok (.bipush 32, 2) := by decide +kernel
theorem dX5_back_172 : decode cX5_back 172 = .ok (.aload_n 0, 1) := by decide +kernel
theorem dX5_back_173 : decode cX5_back 173 = .ok (.getfield 34, 3) := by decide +kernel
theorem dX5_back_176 : decode cX5_back 176 = .ok (.iconst 0, 1) := by decide +kernel
theorem dX5_back_177 : decode cX5_back 177 = .ok (.bipush 96, 2) := by decide +kernel
theorem dX5_back_179 : decode cX5_back 179 = .ok (.invokestatic 169, 3) := by decide +kernel
theorem dX5_back_182 : decode cX5_back 182 = .ok (.iconst 1, 1) := by decide +kernel
theorem dX5_back_183 : decode cX5_back 183 = .ok (.ireturn, 1) := by decide +kernel
theorem dJ6_bitCount_0f7a4_0 : decode cJ6_bitCount_0f7a4 0 = .ok (.iload_n 0, 1) := by decide +kernel
theorem dJ6_bitCount_0f7a4_1 : decode cJ6_bitCount_0f7a4 1 = .ok (.iload_n 0, 1) := by decide +kernel
theorem dJ6_bitCount_0f7a4_2 : decode cJ6_bitCount_0f7a4 2 = .ok (.iconst 1, 1) := by decide +kernel
theorem dJ6_bitCount_0f7a4_3 : decode cJ6_bitCount_0f7a4 3 = .ok (.iushr, 1) := by decide +kernel
theorem dJ6_bitCount_0f7a4_4 : decode cJ6_bitCount_0f7a4 4 = .ok (.ldc_w 265, 3) := by decide +kernel
theorem dJ6_bitCount_0f7a4_7 : decode cJ6_bitCount_0f7a4 7 = .ok (.iand, 1) := by decide +kernel
theorem dJ6_bitCount_0f7a4_8 : decode cJ6_bitCount_0f7a4 8 = .ok (.isub, 1) := by decide +kernel
theorem dJ6_bitCount_0f7a4_9 : decode cJ6_bitCount_0f7a4 9 = .ok (.istore_n 0, 1) := by decide +kernel
theorem dJ6_bitCount_0f7a4_10 : decode cJ6_bitCount_0f7a4 10 = .ok (.iload_n 0, 1) := by decide +kernel
theorem dJ6_bitCount_0f7a4_11 : decode cJ6_bitCount_0f7a4 11 = .ok (.ldc_w 266, 3) := by decide +kernel
theorem dJ6_bitCount_0f7a4_14 : decode cJ6_bitCount_0f7a4 14 = .ok (.iand, 1) := by decide +kernel
theorem dJ6_bitCount_0f7a4_15 : decode cJ6_bitCount_0f7a4 15 = .ok (.iload_n 0, 1) := by decide +kernel
theorem dJ6_bitCount_0f7a4_16 : decode cJ6_bitCount_0f7a4 16 = .ok (.iconst 2, 1) := by decide +kernel
theorem dJ6_bitCount_0f7a4_17 : decode cJ6_bitCount_0f7a4 17 = .ok (.iushr, 1) := by decide +kernel
theorem dJ6_bitCount_0f7a4_18 : decode cJ6_bitCount_0f7a4 18 = .ok (.ldc_w 266, 3) := by decide +kernel
theorem dJ6_bitCount_0f7a4_21 : decode cJ6_bitCount_0f7a4 21 = .ok (.iand, 1) := by decide +kernel
theorem dJ6_bitCount_0f7a4_22 : decode cJ6_bitCount_0f7a4 22 = .ok (.iadd, 1) := by decide +kernel
theorem dJ6_bitCount_0f7a4_23 : decode cJ6_bitCount_0f7a4 23 = .ok (.istore_n 0, 1) := by decide +kernel
theorem dJ6_bitCount_0f7a4_24 : decode cJ6_bitCount_0f7a4 24 = .ok (.iload_n 0, 1) := by decide +kernel
theorem dJ6_bitCount_0f7a4_25 : decode cJ6_bitCount_0f7a4 25 = .ok (.iload_n 0, 1) := by decide +kernel
theorem dJ6_bitCount_0f7a4_26 : decode cJ6_bitCount_0f7a4 26 = .ok (.iconst 4, 1) := by decide +kernel
theorem dJ6_bitCount_0f7a4_27 : decode cJ6_bitCount_0f7a4 27 = .ok (.iushr, 1) := by decide +kernel
theorem dJ6_bitCount_0f7a4_28 : decode cJ6_bitCount_0f7a4 28 = .ok (.iadd, 1) := by decide +kernel
theorem dJ6_bitCount_0f7a4_29 : decode cJ6_bitCount_0f7a4 29 = .ok (.ldc_w 267, 3) := by decide +kernel
theorem dJ6_bitCount_0f7a4_32 : decode cJ6_bitCount_0f7a4 32 = .ok (.iand, 1) := by decide +kernel
theorem dJ6_bitCount_0f7a4_33 : decode cJ6_bitCount_0f7a4 33 = .ok (.istore_n 0, 1) := by decide +kernel
theorem dJ6_bitCount_0f7a4_34 : decode cJ6_bitCount_0f7a4 34 = .ok (.iload_n 0, 1) := by decide +kernel
theorem dJ6_bitCount_0f7a4_35 : decode cJ6_bitCount_0f7a4 35 = .ok (.iload_n 0, 1) := by decide +kernel
theorem dJ6_bitCount_0f7a4_36 : decode cJ6_bitCount_0f7a4 36 = .ok (.bipush 8, 2) := by decide +kernel
theorem dJ6_bitCount_0f7a4_38 : decode cJ6_bitCount_0f7a4 38 = .ok (.iushr, 1) := by decide +kernel
theorem dJ6_bitCount_0f7a4_39 : decode cJ6_bitCount_0f7a4 39 = .ok (.iadd, 1) := by decide +kernel
theorem dJ6_bitCount_0f7a4_40 : decode cJ6_bitCount_0f7a4 40 = .ok (.istore_n 0, 1) := by decide +kernel
theorem dJ6_bitCount_0f7a4_41 : decode cJ6_bitCount_0f7a4 41 = .ok (.iload_n 0, 1) := by decide +kernel
theorem dJ6_bitCount_0f7a4_42 : decode cJ6_bitCount_0f7a4 42 = .ok (.iload_n 0, 1) := by decide +kernel
theorem dJ6_bitCount_0f7a4_43 : decode cJ6_bitCount_0f7a4 43 = .ok (.bipush 16, 2) := by decide +kernel
theorem dJ6_bitCount_0f7a4_45 : decode cJ6_bitCount_0f7a4 45 = .ok (.iushr, 1) := by decide +kernel
theorem dJ6_bitCount_0f7a4_46 : decode cJ6_bitCount_0f7a4 46 = .ok (.iadd, 1) := by decide +kernel
theorem dJ6_bitCount_0f7a4_47 : decode cJ6_bitCount_0f7a4 47 = .ok (.istore_n 0, 1) := by decide +kernel
theorem dJ6_bitCount_0f7a4_48 : decode cJ6_bitCount_0f7a4 48 = .ok (.iload_n 0, 1) := by decide +kernel
theorem dJ6_bitCount_0f7a4_49 : decode cJ6_bitCount_0f7a4 49 = .ok (.bipush 63, 2) := by decide +kernel
theorem dJ6_bitCount_0f7a4_51 : decode cJ6_bitCount_0f7a4 51 = .ok (.iand, 1) := by decide +kernel
theorem dJ6_bitCount_0f7a4_52 : decode cJ6_bitCount_0f7a4 52 = .ok (.ireturn, 1) := by decide +kernel
theorem dJ9_max_7cf53_0 : decode cJ9_max_7cf53 0 = .ok (.iload_n 0, 1) := by decide +kernel
theorem dJ9_max_7cf53_1 : decode cJ9_max_7cf53 1 = .ok (.iload_n 1, 1) := by decide +kernel
theorem dJ9_max_7cf53_2 : decode cJ9_max_7cf53 2 = .ok (.if_icmp .lt 7, 3) := by decide +kernel
theorem dJ9_max_7cf53_5 : decode cJ9_max_7cf53 5 = .ok (.iload_n 0, 1) := by decide +kernel
theorem dJ9_max_7cf53_6 : decode cJ9_max_7cf53 6 = .ok (.goto 4, 3) := by decide +kernel
theorem dJ9_max_7cf53_9 : decode cJ9_max_7cf53 9 = .ok (.iload_n 1, 1) := by decide +kernel
theorem dJ9_max_7cf53_10 : decode cJ9_max_7cf53 10 = .ok (.ireturn, 1) := by decide +kernel
theorem dJ9_min_7cf53_0 : decode cJ9_min_7cf53 0 = .ok (.iload_n 0, 1) := by decide +kernel
theorem dJ9_min_7cf53_1 : decode cJ9_min_7cf53 1 = .ok (.iload_n 1, 1) := by decide +kernel
theorem dJ9_min_7cf53_2 : decode cJ9_min_7cf53 2 = .ok (.if_icmp .gt 7, 3) := by decide +kernel
theorem dJ9_min_7cf53_5 : decode cJ9_min_7cf53 5 = .ok (.iload_n 0, 1) := by decide +kernel
theorem dJ9_min_7cf53_6 : decode cJ9_min_7cf53 6 = .ok (.goto 4, 3) := by decide +kernel
theorem dJ9_min_7cf53_9 : decode cJ9_min_7cf53 9 = .ok (.iload_n 1, 1) := by decide +kernel
theorem dJ9_min_7cf53_10 : decode cJ9_min_7cf53 10 = .ok (.ireturn, 1) := by decide +kernel
theorem dJ7_fill_53178_0 : decode cJ7_fill_53178 0 = .ok (.iconst 0, 1) := by decide +kernel
theorem dJ7_fill_53178_1 : decode cJ7_fill_53178 1 = .ok (.istore_n 2, 1) := by decide +kernel
theorem dJ7_fill_53178_2 : decode cJ7_fill_53178 2 = .ok (.aload_n 0, 1) := by decide +kernel
theorem dJ7_fill_53178_3 : decode cJ7_fill_53178 3 = .ok (.arraylength, 1) := by decide +kernel
theorem dJ7_fill_53178_4 : decode cJ7_fill_53178 4 = .ok (.istore_n 3, 1) := by decide +kernel
theorem dJ7_fill_53178_5 : decode cJ7_fill_53178 5 = .ok (.iload_n 2, 1) := by decide +kernel
theorem dJ7_fill_53178_6 : decode cJ7_fill_53178 6 = .ok (.iload_n 3, 1) := by decide +kernel
theorem dJ7_fill_53178_7 : decode cJ7_fill_53178 7 = .ok (.if_icmp .ge 13, 3) := by decide +kernel
theorem dJ7_fill_53178_10 : decode cJ7_fill_53178 10 = .ok (.aload_n 0, 1) := by decide +kernel
theorem dJ7_fill_53178_11 : decode cJ7_fill_53178 11 = .ok (.iload_n 2, 1) := by decide +kernel
theorem dJ7_fill_53178_12 : decode cJ7_fill_53178 12 = .ok (.iload_n 1, 1) := by decide +kernel
theorem dJ7_fill_53178_13 : decode cJ7_fill_53178 13 = .ok (.iastore, 1) := by decide +kernel
theorem dJ7_fill_53178_14 : decode cJ7_fill_53178 14 = .ok (.iinc 2 1, 3) := by decide +kernel
theorem dJ7_fill_53178_17 : decode cJ7_fill_53178 17 = .ok (.goto (-12), 3) := by decide +kernel
theorem dJ7_fill_53178_20 : decode cJ7_fill_53178 20 = .ok (.return_, 1) := by decide +kernel
theorem dL_law_0 : decode cL_law 0 = .ok (.new 7, 3) := by decide +kernel
theorem dL_law_3 : decode cL_law 3 = .ok (.dup, 1) := by decide +kernel
theorem dL_law_4 : decode cL_law 4 = .ok (.invokespecial 9, 3) := by decide +kernel
theorem dL_law_7 : decode cL_law 7 = .ok (.astore_n 1, 1) := by decide +kernel
theorem dL_law_8 : decode cL_law 8 = .ok (.new 10, 3) := by decide +kernel
theorem dL_law_11 : decode cL_law 11 = .ok (.dup, 1) := by decide +kernel
theorem dL_law_12 : decode cL_law 12 = .ok (.invokespecial 12, 3) := by decide +kernel
theorem dL_law_15 : decode cL_law 15 = .ok (.astore_n 2, 1) := by decide +kernel
theorem dL_law_16 : decode cL_law 16 = .ok (.iconst 0, 1) := by decide +kernel
theorem dL_law_17 : decode cL_law 17 = .ok (.istore_n 3, 1) := by decide +kernel
theorem dL_law_18 : decode cL_law 18 = .ok (.iload_n 3, 1) := by decide +kernel
theorem dL_law_19 : decode cL_law 19 = .ok (.aload_n 0, 1) := by decide +kernel
theorem dL_law_20 : decode cL_law 20 = .ok (.arraylength, 1) := by decide +kernel
theorem dL_law_21 : decode cL_law 21 = .ok (.iconst 4, 1) := by decide +kernel
theorem dL_law_22 : decode cL_law 22 = .ok (.isub, 1) := by decide +kernel
theorem dL_law_23 : decode cL_law 23 = .ok (.if_icmp .gt 903, 3) := by decide +kernel
theorem dL_law_26 : decode cL_law 26 = .ok (.aload_n 0, 1) := by decide +kernel
theorem dL_law_27 : decode cL_law 27 = .ok (.iload_n 3, 1) := by decide +kernel
theorem dL_law_28 : decode cL_law 28 = .ok (.iaload, 1) := by decide +kernel
theorem dL_law_29 : decode cL_law 29 = .ok (.bipush 31, 2) := by decide +kernel
theorem dL_law_31 : decode cL_law 31 = .ok (.iand, 1) := by decide +kernel
theorem dL_law_32 : decode cL_law 32 = .ok (.tableswitch 888 0 25 #[120, 153, 196, 239, 272, 305, 348, 381, 414, 447, 480, 513, 556, 589, 602, 625, 658, 671, 684, 727, 770, 803, 816, 839, 862, 875], 120) := by decide +kernel
theorem dL_law_152 : decode cL_law 152 = .ok (.aload_n 1, 1) := by decide +kernel
theorem dL_law_153 : decode cL_law 153 = .ok (.aload_n 0, 1) := by decide +kernel
theorem dL_law_154 : decode cL_law 154 = .ok (.iload_n 3, 1) := by decide +kernel
theorem dL_law_155 : decode cL_law 155 = .ok (.iconst 1, 1) := by decide +kernel
theorem dL_law_156 : decode cL_law 156 = .ok (.iadd, 1) := by decide +kernel
theorem dL_law_157 : decode cL_law 157 = .ok (.iaload, 1) := by decide +kernel
theorem dL_law_158 : decode cL_law 158 = .ok (.aload_n 0, 1) := by decide +kernel
theorem dL_law_159 : decode cL_law 159 = .ok (.iload_n 3, 1) := by decide +kernel
theorem dL_law_160 : decode cL_law 160 = .ok (.iconst 2, 1) := by decide +kernel
theorem dL_law_161 : decode cL_law 161 = .ok (.iadd, 1) := by decide +kernel
theorem dL_law_162 : decode cL_law 162 = .ok (.iaload, 1) := by decide +kernel
theorem dL_law_163 : decode cL_law 163 = .ok (.invokevirtual 13, 3) := by decide +kernel
theorem dL_law_166 : decode cL_law 166 = .ok (.aload_n 2, 1) := by decide +kernel
theorem dL_law_167 : decode cL_law 167 = .ok (.aload_n 0, 1) := by decide +kernel
theorem dL_law_168 : decode cL_law 168 = .ok (.iload_n 3, 1) := by decide +kernel
theorem dL_law_169 : decode cL_law 169 = .ok (.iconst 1, 1) := by decide +kernel
theorem dL_law_170 : decode cL_law 170 = .ok (.iadd, 1) := by decide +kernel
theorem dL_law_171 : decode cL_law 171 = .ok (.iaload, 1) := by decide +kernel
theorem dL_law_172 : decode cL_law 172 = .ok (.aload_n 0, 1) := by decide +kernel
theorem dL_law_173 : decode cL_law 173 = .ok (.iload_n 3, 1) := by decide +kernel
theorem dL_law_174 : decode cL_law 174 = .ok (.iconst 2, 1) := by decide +kernel
theorem dL_law_175 : decode cL_law 175 = .ok (.iadd, 1) := by decide +kernel
theorem dL_law_176 : decode cL_law 176 = .ok (.iaload, 1) := by decide +kernel
theorem dL_law_177 : decode cL_law 177 = .ok (.invokevirtual 17, 3) := by decide +kernel
theorem dL_law_180 : decode cL_law 180 = .ok (.if_icmp .eq 740, 3) := by decide +kernel
theorem dL_law_183 : decode cL_law 183 = .ok (.iconst 0, 1) := by decide +kernel
theorem dL_law_184 : decode cL_law 184 = .ok (.ireturn, 1) := by decide +kernel
theorem dL_law_185 : decode cL_law 185 = .ok (.aload_n 1, 1) := by decide +kernel
theorem dL_law_186 : decode cL_law 186 = .ok (.aload_n 0, 1) := by decide +kernel
theorem dL_law_187 : decode cL_law 187 = .ok (.iload_n 3, 1) := by decide +kernel
theorem dL_law_188 : decode cL_law 188 = .ok (.iconst 1, 1) := by decide +kernel
theorem dL_law_189 : decode cL_law 189 = .ok (.iadd, 1) := by decide +kernel
theorem dL_law_190 : decode cL_law 190 = .ok (.iaload, 1) := by decide +kernel
theorem dL_law_191 : decode cL_law 191 = .ok (.aload_n 0, 1) := by decide +kernel
theorem dL_law_192 : decode cL_law 192 = .ok (.iload_n 3, 1) := by decide +kernel
theorem dL_law_193 : decode cL_law 193 = .ok (.iconst 2, 1) := by decide +kernel
theorem dL_law_194 : decode cL_law 194 = .ok (.iadd, 1) := by decide +kernel
theorem dL_law_195 : decode cL_law 195 = .ok (.iaload, 1) := by decide +kernel
theorem dL_law_196 : decode cL_law 196 = .ok (.aload_n 0, 1) := by decide +kernel
theorem dL_law_197 : decode cL_law 197 = .ok (.iload_n 3, 1) := by decide +kernel
theorem dL_law_198 : decode cL_law 198 = .ok (.iconst 3, 1) := by decide +kernel
theorem dL_law_199 : decode cL_law 199 = .ok (.iadd, 1) := by decide +kernel
theorem dL_law_200 : decode cL_law 200 = .ok (.iaload, 1) := by decide +kernel
theorem dL_law_201 : decode cL_law 201 = .ok (.invokevirtual 18, 3) := by decide +kernel
theorem dL_law_204 : decode cL_law 204 = .ok (.aload_n 2, 1) := by decide +kernel
theorem dL_law_205 : decode cL_law 205 = .ok (.aload_n 0, 1) := by decide +kernel
theorem dL_law_206 : decode cL_law 206 = .ok (.iload_n 3, 1) := by decide +kernel
theorem dL_law_207 : decode cL_law 207 = .ok (.iconst 1, 1) := by decide +kernel
theorem dL_law_208 : decode cL_law 208 = .ok (.iadd, 1) := by decide +kernel
theorem dL_law_209 : decode cL_law 209 = .ok (.iaload, 1) := by decide +kernel
theorem dL_law_210 : decode cL_law 210 = .ok (.aload_n 0, 1) := by decide +kernel
theorem dL_law_211 : decode cL_law 211 = .ok (.iload_n 3, 1) := by decide +kernel
theorem dL_law_212 : decode cL_law 212 = .ok (.iconst 2, 1) := by decide +kernel
theorem dL_law_213 : decode cL_law 213 = .ok (.iadd, 1) := by decide +kernel
theorem dL_law_214 : decode cL_law 214 = .ok (.iaload, 1) := by decide +kernel
theorem dL_law_215 : decode cL_law 215 = .ok (.aload_n 0, 1) := by decide +kernel
theorem dL_law_216 : decode cL_law 216 = .ok (.iload_n 3, 1) := by decide +kernel
theorem dL_law_217 : decode cL_law 217 = .ok (.iconst 3, 1) := by decide +kernel
theorem dL_law_218 : decode cL_law 218 = .ok (.iadd, 1) := by decide +kernel
theorem dL_law_219 : decode cL_law 219 = .ok (.iaload, 1) := by decide +kernel
theorem dL_law_220 : decode cL_law 220 = .ok (.invokevirtual 22, 3) := by decide +kernel
theorem dL_law_223 : decode cL_law 223 = .ok (.if_icmp .eq 697, 3) := by decide +kernel
theorem dL_law_226 : decode cL_law 226 = .ok (.iconst 0, 1) := by decide +kernel
theorem dL_law_227 : decode cL_law 227 = .ok (.ireturn, 1) := by decide +kernel
theorem dL_law_228 : decode cL_law 228 = .ok (.aload_n 1, 1) := by decide +kernel
theorem dL_law_229 : decode cL_law 229 = .ok (.aload_n 0, 1) := by decide +kernel
theorem dL_law_230 : decode cL_law 230 = .ok (.iload_n 3, 1) := by decide +kernel
theorem dL_law_231 : decode cL_law 231 = .ok (.iconst 1, 1) := by decide +kernel
theorem dL_law_232 : decode cL_law 232 = .ok (.iadd, 1) := by decide +kernel
theorem dL_law_233 : decode cL_law 233 = .ok (.iaload, 1) := by decide +kernel
theorem dL_law_234 : decode cL_law 234 = .ok (.aload_n 0, 1) := by decide +kernel
theorem dL_law_235 : decode cL_law 235 = .ok (.iload_n 3, 1) := by decide +kernel
theorem dL_law_236 : decode cL_law 236 = .ok (.iconst 2, 1) := by decide +kernel
theorem dL_law_237 : decode cL_law 237 = .ok (.iadd, 1) := by decide +kernel
theorem dL_law_238 : decode cL_law 238 = .ok (.iaload, 1) := by decide +kernel
theorem dL_law_239 : decode cL_law 239 = .ok (.aload_n 0, 1) := by decide +kernel
theorem dL_law_240 : decode cL_law 240 = .ok (.iload_n 3, 1) := by decide +kernel
theorem dL_law_241 : decode cL_law 241 = .ok (.iconst 3, 1) := by decide +kernel
theorem dL_law_242 : decode cL_law 242 = .ok (.iadd, 1) := by decide +kernel
theorem dL_law_243 : decode cL_law 243 = .ok (.iaload, 1) := by decide +kernel
theorem dL_law_244 : decode cL_law 244 = .ok (.invokevirtual 23, 3) := by decide +kernel
theorem dL_law_247 : decode cL_law 247 = .ok (.aload_n 2, 1) := by decide +kernel
theorem dL_law_248 : decode cL_law 248 = .ok (.aload_n 0, 1) := by decide +kernel
theorem dL_law_249 : decode cL_law 249 = .ok (.iload_n 3, 1) := by decide +kernel
theorem dL_law_250 : decode cL_law 250 = .ok (.iconst 1, 1) := by decide +kernel
theorem dL_law_251 : decode cL_law 251 = .ok (.iadd, 1) := by decide +kernel
theorem dL_law_252 : decode cL_law 252 = .ok (.iaload, 1) := by decide +kernel
theorem dL_law_253 : decode cL_law 253 = .ok (.aload_n 0, 1) := by decide +kernel
theorem dL_law_254 : decode cL_law 254 = .ok (.iload_n 3, 1) := by decide +kernel
theorem dL_law_255 : decode cL_law 255 = .ok (.iconst 2, 1) := by decide +kernel
theorem dL_law_256 : decode cL_law 256 = .ok (.iadd, 1) := by decide +kernel
theorem dL_law_257 : decode cL_law 257 = .ok (.iaload, 1) := by decide +kernel
theorem dL_law_258 : decode cL_law 258 = .ok (.aload_n 0, 1) := by decide +kernel
theorem dL_law_259 : decode cL_law 259 = .ok (.iload_n 3, 1) := by decide +kernel
theorem dL_law_260 : decode cL_law 260 = .ok (.iconst 3, 1) := by decide +kernel
theorem dL_law_261 : decode cL_law 261 = .ok (.iadd, 1) := by decide +kernel
theorem dL_law_262 : decode cL_law 262 = .ok (.iaload, 1) := by decide +kernel
theorem dL_law_263 : decode cL_law 263 = .ok (.invokevirtual 26, 3) := by decide +kernel
theorem dL_law_266 : decode cL_law 266 = .ok (.if_icmp .eq 654, 3) := by decide +kernel
theorem dL_law_269 : decode cL_law 269 = .ok (.iconst 0, 1) := by decide +kernel
theorem dL_law_270 : decode cL_law 270 = .ok (.ireturn, 1) := by decide +kernel
theorem dL_law_271 : decode cL_law 271 = .ok (.aload_n 1, 1) := by decide +kernel
theorem dL_law_272 : decode cL_law 272 = .ok (.aload_n 0, 1) := by decide +kernel
theorem dL_law_273 : decode cL_law 273 = .ok (.iload_n 3, 1) := by decide +kernel
theorem dL_law_274 : decode cL_law 274 = .ok (.iconst 1, 1) := by decide +kernel
theorem dL_law_275 : decode cL_law 275 = .ok (.iadd, 1) := by decide +kernel
theorem dL_law_276 : decode cL_law 276 = .ok (.iaload, 1) := by decide +kernel
theorem dL_law_277 : decode cL_law 277 = .ok (.aload_n 0, 1) := by decide +kernel
theorem dL_law_278 : decode cL_law 278 = .ok (.iload_n 3, 1) := by decide +kernel
theorem dL_law_279 : decode cL_law 279 = .ok (.iconst 2, 1) := by decide +kernel
theorem dL_law_280 : decode cL_law 280 = .ok (.iadd, 1) := by decide +kernel
theorem dL_law_281 : decode cL_law 281 = .ok (.iaload, 1) := by decide +kernel
theorem dL_law_282 : decode cL_law 282 = .ok (.invokevirtual 27, 3) := by decide +kernel
theorem dL_law_285 : decode cL_law 285 = .ok (.aload_n 2, 1) := by decide +kernel
theorem dL_law_286 : decode cL_law 286 = .ok (.aload_n 0, 1) := by decide +kernel
theorem dL_law_287 : decode cL_law 287 = .ok (.iload_n 3, 1) := by decide +kernel
theorem dL_law_288 : decode cL_law 288 = .ok (.iconst 1, 1) := by decide +kernel
theorem dL_law_289 : decode cL_law 289 = .ok (.iadd, 1) := by decide +kernel
theorem dL_law_290 : decode cL_law 290 = .ok (.iaload, 1) := by decide +kernel
theorem dL_law_291 : decode cL_law 291 = .ok (.aload_n 0, 1) := by decide +kernel
theorem dL_law_292 : decode cL_law 292 = .ok (.iload_n 3, 1) := by decide +kernel
theorem dL_law_293 : decode cL_law 293 = .ok (.iconst 2, 1) := by decide +kernel
theorem dL_law_294 : decode cL_law 294 = .ok (.iadd, 1) := by decide +kernel
theorem dL_law_295 : decode cL_law 295 = .ok (.iaload, 1) := by decide +kernel
theorem dL_law_296 : decode cL_law 296 = .ok (.invokevirtual 30, 3) := by decide +kernel
theorem dL_law_299 : decode cL_law 299 = .ok (.if_icmp .eq 621, 3) := by decide +kernel
theorem dL_law_302 : decode cL_law 302 = .ok (.iconst 0, 1) := by decide +kernel
theorem dL_law_303 : decode cL_law 303 = .ok (.ireturn, 1) := by decide +kernel
theorem dL_law_304 : decode cL_law 304 = .ok (.aload_n 1, 1) := by decide +kernel
theorem dL_law_305 : decode cL_law 305 = .ok (.aload_n 0, 1) := by decide +kernel
theorem dL_law_306 : decode cL_law 306 = .ok (.iload_n 3, 1) := by decide +kernel
theorem dL_law_307 : decode cL_law 307 = .ok (.iconst 1, 1) := by decide +kernel
theorem dL_law_308 : decode cL_law 308 = .ok (.iadd, 1) := by decide +kernel
theorem dL_law_309 : decode cL_law 309 = .ok (.iaload, 1) := by decide +kernel
theorem dL_law_310 : decode cL_law 310 = .ok (.aload_n 0, 1) := by decide +kernel
theorem dL_law_311 : decode cL_law 311 = .ok (.iload_n 3, 1) := by decide +kernel
theorem dL_law_312 : decode cL_law 312 = .ok (.iconst 2, 1) := by decide +kernel
theorem dL_law_313 : decode cL_law 313 = .ok (.iadd, 1) := by decide +kernel
theorem dL_law_314 : decode cL_law 314 = .ok (.iaload, 1) := by decide +kernel
theorem dL_law_315 : decode cL_law 315 = .ok (.invokevirtual 31, 3) := by decide +kernel
theorem dL_law_318 : decode cL_law 318 = .ok (.aload_n 2, 1) := by decide +kernel
theorem dL_law_319 : decode cL_law 319 = .ok (.aload_n 0, 1) := by decide +kernel
theorem dL_law_320 : decode cL_law 320 = .ok (.iload_n 3, 1) := by decide +kernel
theorem dL_law_321 : decode cL_law 321 = .ok (.iconst 1, 1) := by decide +kernel
theorem dL_law_322 : decode cL_law 322 = .ok (.iadd, 1) := by decide +kernel
theorem dL_law_323 : decode cL_law 323 = .ok (.iaload, 1) := by decide +kernel
theorem dL_law_324 : decode cL_law 324 = .ok (.aload_n 0, 1) := by decide +kernel
theorem dL_law_325 : decode cL_law 325 = .ok (.iload_n 3, 1) := by decide +kernel
theorem dL_law_326 : decode cL_law 326 = .ok (.iconst 2, 1) := by decide +kernel
theorem dL_law_327 : decode cL_law 327 = .ok (.iadd, 1) := by decide +kernel
theorem dL_law_328 : decode cL_law 328 = .ok (.iaload, 1) := by decide +kernel
theorem dL_law_329 : decode cL_law 329 = .ok (.invokevirtual 34, 3) := by decide +kernel
theorem dL_law_332 : decode cL_law 332 = .ok (.if_icmp .eq 588, 3) := by decide +kernel
theorem dL_law_335 : decode cL_law 335 = .ok (.iconst 0, 1) := by decide +kernel
theorem dL_law_336 : decode cL_law 336 = .ok (.ireturn, 1) := by decide +kernel
theorem dL_law_337 : decode cL_law 337 = .ok (.aload_n 1, 1) := by decide +kernel
theorem dL_law_338 : decode cL_law 338 = .ok (.aload_n 0, 1) := by decide +kernel
theorem dL_law_339 : decode cL_law 339 = .ok (.iload_n 3, 1) := by decide +kernel
theorem dL_law_340 : decode cL_law 340 = .ok (.iconst 1, 1) := by decide +kernel
theorem dL_law_341 : decode cL_law 341 = .ok (.iadd, 1) := by decide +kernel
theorem dL_law_342 : decode cL_law 342 = .ok (.iaload, 1) := by decide +kernel
theorem dL_law_343 : decode cL_law 343 = .ok (.aload_n 0, 1) := by decide +kernel
theorem dL_law_344 : decode cL_law 344 = .ok (.iload_n 3, 1) := by decide +kernel
theorem dL_law_345 : decode cL_law 345 = .ok (.iconst 2, 1) := by decide +kernel
theorem dL_law_346 : decode cL_law 346 = .ok (.iadd, 1) := by decide +kernel
theorem dL_law_347 : decode cL_law 347 = .ok (.iaload, 1) := by decide +kernel
theorem dL_law_348 : decode cL_law 348 = .ok (.aload_n 0, 1) := by decide +kernel
theorem dL_law_349 : decode cL_law 349 = .ok (.iload_n 3, 1) := by decide +kernel
theorem dL_law_350 : decode cL_law 350 = .ok (.iconst 3, 1) := by decide +kernel
theorem dL_law_351 : decode cL_law 351 = .ok (.iadd, 1) := by decide +kernel
theorem dL_law_352 : decode cL_law 352 = .ok (.iaload, 1) := by decide +kernel
theorem dL_law_353 : decode cL_law 353 = .ok (.invokevirtual 35, 3) := by decide +kernel
theorem dL_law_356 : decode cL_law 356 = .ok (.aload_n 2, 1) := by decide +kernel
theorem dL_law_357 : decode cL_law 357 = .ok (.aload_n 0, 1) := by decide +kernel
theorem dL_law_358 : decode cL_law 358 = .ok (.iload_n 3, 1) := by decide +kernel
theorem dL_law_359 : decode cL_law 359 = .ok (.iconst 1, 1) := by decide +kernel
theorem dL_law_360 : decode cL_law 360 = .ok (.iadd, 1) := by decide +kernel
theorem dL_law_361 : decode cL_law 361 = .ok (.iaload, 1) := by decide +kernel
theorem dL_law_362 : decode cL_law 362 = .ok (.aload_n 0, 1) := by decide +kernel
theorem dL_law_363 : decode cL_law 363 = .ok (.iload_n 3, 1) := by decide +kernel
theorem dL_law_364 : decode cL_law 364 = .ok (.iconst 2, 1) := by decide +kernel
theorem dL_law_365 : decode cL_law 365 = .ok (.iadd, 1) := by decide +kernel
theorem dL_law_366 : decode cL_law 366 = .ok (.iaload, 1) := by decide +kernel
theorem dL_law_367 : decode cL_law 367 = .ok (.aload_n 0, 1) := by decide +kernel
theorem dL_law_368 : decode cL_law 368 = .ok (.iload_n 3, 1) := by decide +kernel
theorem dL_law_369 : decode cL_law 369 = .ok (.iconst 3, 1) := by decide +kernel
theorem dL_law_370 : decode cL_law 370 = .ok (.iadd, 1) := by decide +kernel
theorem dL_law_371 : decode cL_law 371 = .ok (.iaload, 1) := by decide +kernel
theorem dL_law_372 : decode cL_law 372 = .ok (.invokevirtual 38, 3) := by decide +kernel
theorem dL_law_375 : decode cL_law 375 = .ok (.if_icmp .eq 545, 3) := by decide +kernel
theorem dL_law_378 : decode cL_law 378 = .ok (.iconst 0, 1) := by decide +kernel
theorem dL_law_379 : decode cL_law 379 = .ok (.ireturn, 1) := by decide +kernel
theorem dL_law_380 : decode cL_law 380 = .ok (.aload_n 1, 1) := by decide +kernel
theorem dL_law_381 : decode cL_law 381 = .ok (.aload_n 0, 1) := by decide +kernel
theorem dL_law_382 : decode cL_law 382 = .ok (.iload_n 3, 1) := by decide +kernel
theorem dL_law_383 : decode cL_law 383 = .ok (.iconst 1, 1) := by decide +kernel
theorem dL_law_384 : decode cL_law 384 = .ok (.iadd, 1) := by decide +kernel
theorem dL_law_385 : decode cL_law 385 = .ok (.iaload, 1) := by decide +kernel
theorem dL_law_386 : decode cL_law 386 = .ok (.aload_n 0, 1) := by decide +kernel
theorem dL_law_387 : decode cL_law 387 = .ok (.iload_n 3, 1) := by decide +kernel
theorem dL_law_388 : decode cL_law 388 = .ok (.iconst 2, 1) := by decide +kernel
theorem dL_law_389 : decode cL_law 389 = .ok (.iadd, 1) := by decide +kernel
theorem dL_law_390 : decode cL_law 390 = .ok (.iaload, 1) := by decide +kernel
theorem dL_law_391 : decode cL_law 391 = .ok (.invokevirtual 39, 3) := by decide +kernel
theorem dL_law_394 : decode cL_law 394 = .ok (.aload_n 2, 1) := by decide +kernel
theorem dL_law_395 : decode cL_law 395 = .ok (.aload_n 0, 1) := by decide +kernel
theorem dL_law_396 : decode cL_law 396 = .ok (.iload_n 3, 1) := by decide +kernel
theorem dL_law_397 : decode cL_law 397 = .ok (.iconst 1, 1) := by decide +kernel
theorem dL_law_398 : decode cL_law 398 = .ok (.iadd, 1) := by decide +kernel
theorem dL_law_399 : decode cL_law 399 = .ok (.iaload, 1) := by decide +kernel
theorem dL_law_400 : decode cL_law 400 = .ok (.aload_n 0, 1) := by decide +kernel
theorem dL_law_401 : decode cL_law 401 = .ok (.iload_n 3, 1) := by decide +kernel
theorem dL_law_402 : decode cL_law 402 = .ok (.iconst 2, 1) := by decide +kernel
theorem dL_law_403 : decode cL_law 403 = .ok (.iadd, 1) := by decide +kernel
theorem dL_law_404 : decode cL_law 404 = .ok (.iaload, 1) := by decide +kernel
theorem dL_law_405 : decode cL_law 405 = .ok (.invokevirtual 42, 3) := by decide +kernel
theorem dL_law_408 : decode cL_law 408 = .ok (.if_icmp .eq 512, 3) := by decide +kernel
theorem dL_law_411 : decode cL_law 411 = .ok (.iconst 0, 1) := by decide +kernel
theorem dL_law_412 : decode cL_law 412 = .ok (.ireturn, 1) := by decide +kernel
theorem dL_law_413 : decode cL_law 413 = .ok (.aload_n 1, 1) := by decide +kernel
theorem dL_law_414 : decode cL_law 414 = .ok (.aload_n 0, 1) := by decide +kernel
theorem dL_law_415 : decode cL_law 415 = .ok (.iload_n 3, 1) := by decide +kernel
theorem dL_law_416 : decode cL_law 416 = .ok (.iconst 1, 1) := by decide +kernel
theorem dL_law_417 : decode cL_law 417 = .ok (.iadd, 1) := by decide +kernel
theorem dL_law_418 : decode cL_law 418 = .ok (.iaload, 1) := by decide +kernel
theorem dL_law_419 : decode cL_law 419 = .ok (.aload_n 0, 1) := by decide +kernel
theorem dL_law_420 : decode cL_law 420 = .ok (.iload_n 3, 1) := by decide +kernel
theorem dL_law_421 : decode cL_law 421 = .ok (.iconst 2, 1) := by decide +kernel
theorem dL_law_422 : decode cL_law 422 = .ok (.iadd, 1) := by decide +kernel
theorem dL_law_423 : decode cL_law 423 = .ok (.iaload, 1) := by decide +kernel
theorem dL_law_424 : decode cL_law 424 = .ok (.invokevirtual 43, 3) := by decide +kernel
theorem dL_law_427 : decode cL_law 427 = .ok (.aload_n 2, 1) := by decide +kernel
theorem dL_law_428 : decode cL_law 428 = .ok (.aload_n 0, 1) := by decide +kernel
theorem dL_law_429 : decode cL_law 429 = .ok (.iload_n 3, 1) := by decide +kernel
theorem dL_law_430 : decode cL_law 430 = .ok (.iconst 1, 1) := by decide +kernel
theorem dL_law_431 : decode cL_law 431 = .ok (.iadd, 1) := by decide +kernel
theorem dL_law_432 : decode cL_law 432 = .ok (.iaload, 1) := by decide +kernel
theorem dL_law_433 : decode cL_law 433 = .ok (.aload_n 0, 1) := by decide +kernel
theorem dL_law_434 : decode cL_law 434 = .ok (.iload_n 3, 1) := by decide +kernel
theorem dL_law_435 : decode cL_law 435 = .ok (.iconst 2, 1) := by decide +kernel
theorem dL_law_436 : decode cL_law 436 = .ok (.iadd, 1) := by decide +kernel
theorem dL_law_437 : decode cL_law 437 = .ok (.iaload, 1) := by decide +kernel
theorem dL_law_438 : decode cL_law 438 = .ok (.invokevirtual 46, 3) := by decide +kernel
theorem dL_law_441 : decode cL_law 441 = .ok (.if_icmp .eq 479, 3) := by decide +kernel
theorem dL_law_444 : decode cL_law 444 = .ok (.iconst 0, 1) := by decide +kernel
theorem dL_law_445 : decode cL_law 445 = .ok (.ireturn, 1) := by decide +kernel
theorem dL_law_446 : decode cL_law 446 = .ok (.aload_n 1, 1) := by decide +kernel
theorem dL_law_447 : decode cL_law 447 = .ok (.aload_n 0, 1) := by decide +kernel
theorem dL_law_448 : decode cL_law 448 = .ok (.iload_n 3, 1) := by decide +kernel
theorem dL_law_449 : decode cL_law 449 = .ok (.iconst 1, 1) := by decide +kernel
theorem dL_law_450 : decode cL_law 450 = .ok (.iadd, 1) := by decide +kernel
theorem dL_law_451 : decode cL_law 451 = .ok (.iaload, 1) := by decide +kernel
theorem dL_law_452 : decode cL_law 452 = .ok (.aload_n 0, 1) := by decide +kernel
theorem dL_law_453 : decode cL_law 453 = .ok (.iload_n 3, 1) := by decide +kernel
theorem dL_law_454 : decode cL_law 454 = .ok (.iconst 2, 1) := by decide +kernel
theorem dL_law_455 : decode cL_law 455 = .ok (.iadd, 1) := by decide +kernel
theorem dL_law_456 : decode cL_law 456 = .ok (.iaload, 1) := by decide +kernel
theorem dL_law_457 : decode cL_law 457 = .ok (.invokevirtual 47, 3) := by decide +kernel
theorem dL_law_460 : decode cL_law 460 = .ok (.aload_n 2, 1) := by decide +kernel
theorem dL_law_461 : decode cL_law 461 = .ok (.aload_n 0, 1) := by decide +kernel
theorem dL_law_462 : decode cL_law 462 = .ok (.iload_n 3, 1) := by decide +kernel
theorem dL_law_463 : decode cL_law 463 = .ok (.iconst 1, 1) := by decide +kernel
theorem dL_law_464 : decode cL_law 464 = .ok (.iadd, 1) := by decide +kernel
theorem dL_law_465 : decode cL_law 465 = .ok (.iaload, 1) := by decide +kernel
theorem dL_law_466 : decode cL_law 466 = .ok (.aload_n 0, 1) := by decide +kernel
theorem dL_law_467 : decode cL_law 467 = .ok (.iload_n 3, 1) := by decide +kernel
theorem dL_law_468 : decode cL_law 468 = .ok (.iconst 2, 1) := by decide +kernel
theorem dL_law_469 : decode cL_law 469 = .ok (.iadd, 1) := by decide +kernel
theorem dL_law_470 : decode cL_law 470 = .ok (.iaload, 1) := by decide +kernel
theorem dL_law_471 : decode cL_law 471 = .ok (.invokevirtual 50, 3) := by decide +kernel
theorem dL_law_474 : decode cL_law 474 = .ok (.if_icmp .eq 446, 3) := by decide +kernel
theorem dL_law_477 : decode cL_law 477 = .ok (.iconst 0, 1) := by decide +kernel
theorem dL_law_478 : decode cL_law 478 = .ok (.ireturn, 1) := by decide +kernel
theorem dL_law_479 : decode cL_law 479 = .ok (.aload_n 1, 1) := by decide +kernel
theorem dL_law_480 : decode cL_law 480 = .ok (.aload_n 0, 1) := by decide +kernel
theorem dL_law_481 : decode cL_law 481 = .ok (.iload_n 3, 1) := by decide +kernel
theorem dL_law_482 : decode cL_law 482 = .ok (.iconst 1, 1) := by decide +kernel
theorem dL_law_483 : decode cL_law 483 = .ok (.iadd, 1) := by decide +kernel
theorem dL_law_484 : decode cL_law 484 = .ok (.iaload, 1) := by decide +kernel
theorem dL_law_485 : decode cL_law 485 = .ok (.aload_n 0, 1) := by decide +kernel
theorem dL_law_486 : decode cL_law 486 = .ok (.iload_n 3, 1) := by decide +kernel
theorem dL_law_487 : decode cL_law 487 = .ok (.iconst 2, 1) := by decide +kernel
theorem dL_law_488 : decode cL_law 488 = .ok (.iadd, 1) := by decide +kernel
theorem dL_law_489 : decode cL_law 489 = .ok (.iaload, 1) := by decide +kernel
theorem dL_law_490 : decode cL_law 490 = .ok (.invokevirtual 51, 3) := by decide +kernel
theorem dL_law_493 : decode cL_law 493 = .ok (.aload_n 2, 1) := by decide +kernel
theorem dL_law_494 : decode cL_law 494 = .ok (.aload_n 0, 1) := by decide +kernel
theorem dL_law_495 : decode cL_law 495 = .ok (.iload_n 3, 1) := by decide +kernel
theorem dL_law_496 : decode cL_law 496 = .ok (.iconst 1, 1) := by decide +kernel
theorem dL_law_497 : decode cL_law 497 = .ok (.iadd, 1) := by decide +kernel
theorem dL_law_498 : decode cL_law 498 = .ok (.iaload, 1) := by decide +kernel
theorem dL_law_499 : decode cL_law 499 = .ok (.aload_n 0, 1) := by decide +kernel
theorem dL_law_500 : decode cL_law 500 = .ok (.iload_n 3, 1) := by decide +kernel
theorem dL_law_501 : decode cL_law 501 = .ok (.iconst 2, 1) := by decide +kernel
theorem dL_law_502 : decode cL_law 502 = .ok (.iadd, 1) := by decide +kernel
theorem dL_law_503 : decode cL_law 503 = .ok (.iaload, 1) := by decide +kernel
theorem dL_law_504 : decode cL_law 504 = .ok (.invokevirtual 54, 3) := by decide +kernel
theorem dL_law_507 : decode cL_law 507 = .ok (.if_icmp .eq 413, 3) := by decide +kernel
theorem dL_law_510 : decode cL_law 510 = .ok (.iconst 0, 1) := by decide +kernel
theorem dL_law_511 : decode cL_law 511 = .ok (.ireturn, 1) := by decide +kernel
theorem dL_law_512 : decode cL_law 512 = .ok (.aload_n 1, 1) := by decide +kernel
theorem dL_law_513 : decode cL_law 513 = .ok (.aload_n 0, 1) := by decide +kernel
theorem dL_law_514 : decode cL_law 514 = .ok (.iload_n 3, 1) := by decide +kernel
theorem dL_law_515 : decode cL_law 515 = .ok (.iconst 1, 1) := by decide +kernel
theorem dL_law_516 : decode cL_law 516 = .ok (.iadd, 1) := by decide +kernel
theorem dL_law_517 : decode cL_law 517 = .ok (.iaload, 1) := by decide +kernel
theorem dL_law_518 : decode cL_law 518 = .ok (.aload_n 0, 1) := by decide +kernel
theorem dL_law_519 : decode cL_law 519 = .ok (.iload_n 3, 1) := by decide +kernel
theorem dL_law_520 : decode cL_law 520 = .ok (.iconst 2, 1) := by decide +kernel
theorem dL_law_521 : decode cL_law 521 = .ok (.iadd, 1) := by decide +kernel
theorem dL_law_522 : decode cL_law 522 = .ok (.iaload, 1) := by decide +kernel
theorem dL_law_523 : decode cL_law 523 = .ok (.invokevirtual 55, 3) := by decide +kernel
theorem dL_law_526 : decode cL_law 526 = .ok (.aload_n 2, 1) := by decide +kernel
theorem dL_law_527 : decode cL_law 527 = .ok (.aload_n 0, 1) := by decide +kernel
theorem dL_law_528 : decode cL_law 528 = .ok (.iload_n 3, 1) := by decide +kernel
theorem dL_law_529 : decode cL_law 529 = .ok (.iconst 1, 1) := by decide +kernel
theorem dL_law_530 : decode cL_law 530 = .ok (.iadd, 1) := by decide +kernel
theorem dL_law_531 : decode cL_law 531 = .ok (.iaload, 1) := by decide +kernel
theorem dL_law_532 : decode cL_law 532 = .ok (.aload_n 0, 1) := by decide +kernel
theorem dL_law_533 : decode cL_law 533 = .ok (.iload_n 3, 1) := by decide +kernel
theorem dL_law_534 : decode cL_law 534 = .ok (.iconst 2, 1) := by decide +kernel
theorem dL_law_535 : decode cL_law 535 = .ok (.iadd, 1) := by decide +kernel
theorem dL_law_536 : decode cL_law 536 = .ok (.iaload, 1) := by decide +kernel
theorem dL_law_537 : decode cL_law 537 = .ok (.invokevirtual 58, 3) := by decide +kernel
theorem dL_law_540 : decode cL_law 540 = .ok (.if_icmp .eq 380, 3) := by decide +kernel
theorem dL_law_543 : decode cL_law 543 = .ok (.iconst 0, 1) := by decide +kernel
theorem dL_law_544 : decode cL_law 544 = .ok (.ireturn, 1) := by decide +kernel
theorem dL_law_545 : decode cL_law 545 = .ok (.aload_n 1, 1) := by decide +kernel
theorem dL_law_546 : decode cL_law 546 = .ok (.aload_n 0, 1) := by decide +kernel
theorem dL_law_547 : decode cL_law 547 = .ok (.iload_n 3, 1) := by decide +kernel
theorem dL_law_548 : decode cL_law 548 = .ok (.iconst 1, 1) := by decide +kernel
theorem dL_law_549 : decode cL_law 549 = .ok (.iadd, 1) := by decide +kernel
theorem dL_law_550 : decode cL_law 550 = .ok (.iaload, 1) := by decide +kernel
theorem dL_law_551 : decode cL_law 551 = .ok (.aload_n 0, 1) := by decide +kernel
theorem dL_law_552 : decode cL_law 552 = .ok (.iload_n 3, 1) := by decide +kernel
theorem dL_law_553 : decode cL_law 553 = .ok (.iconst 2, 1) := by decide +kernel
theorem dL_law_554 : decode cL_law 554 = .ok (.iadd, 1) := by decide +kernel
theorem dL_law_555 : decode cL_law 555 = .ok (.iaload, 1) := by decide +kernel
theorem dL_law_556 : decode cL_law 556 = .ok (.aload_n 0, 1) := by decide +kernel
theorem dL_law_557 : decode cL_law 557 = .ok (.iload_n 3, 1) := by decide +kernel
theorem dL_law_558 : decode cL_law 558 = .ok (.iconst 3, 1) := by decide +kernel
theorem dL_law_559 : decode cL_law 559 = .ok (.iadd, 1) := by decide +kernel
theorem dL_law_560 : decode cL_law 560 = .ok (.iaload, 1) := by decide +kernel
theorem dL_law_561 : decode cL_law 561 = .ok (.invokevirtual 59, 3) := by decide +kernel
theorem dL_law_564 : decode cL_law 564 = .ok (.aload_n 2, 1) := by decide +kernel
theorem dL_law_565 : decode cL_law 565 = .ok (.aload_n 0, 1) := by decide +kernel
theorem dL_law_566 : decode cL_law 566 = .ok (.iload_n 3, 1) := by decide +kernel
theorem dL_law_567 : decode cL_law 567 = .ok (.iconst 1, 1) := by decide +kernel
theorem dL_law_568 : decode cL_law 568 = .ok (.iadd, 1) := by decide +kernel
theorem dL_law_569 : decode cL_law 569 = .ok (.iaload, 1) := by decide +kernel
theorem dL_law_570 : decode cL_law 570 = .ok (.aload_n 0, 1) := by decide +kernel
theorem dL_law_571 : decode cL_law 571 = .ok (.iload_n 3, 1) := by decide +kernel
theorem dL_law_572 : decode cL_law 572 = .ok (.iconst 2, 1) := by decide +kernel
theorem dL_law_573 : decode cL_law 573 = .ok (.iadd, 1) := by decide +kernel
theorem dL_law_574 : decode cL_law 574 = .ok (.iaload, 1) := by decide +kernel
theorem dL_law_575 : decode cL_law 575 = .ok (.aload_n 0, 1) := by decide +kernel
theorem dL_law_576 : decode cL_law 576 = .ok (.iload_n 3, 1) := by decide +kernel
theorem dL_law_577 : decode cL_law 577 = .ok (.iconst 3, 1) := by decide +kernel
theorem dL_law_578 : decode cL_law 578 = .ok (.iadd, 1) := by decide +kernel
theorem dL_law_579 : decode cL_law 579 = .ok (.iaload, 1) := by decide +kernel
theorem dL_law_580 : decode cL_law 580 = .ok (.invokevirtual 62, 3) := by decide +kernel
theorem dL_law_583 : decode cL_law 583 = .ok (.if_icmp .eq 337, 3) := by decide +kernel
theorem dL_law_586 : decode cL_law 586 = .ok (.iconst 0, 1) := by decide +kernel
theorem dL_law_587 : decode cL_law 587 = .ok (.ireturn, 1) := by decide +kernel
theorem dL_law_588 : decode cL_law 588 = .ok (.aload_n 1, 1) := by decide +kernel
theorem dL_law_589 : decode cL_law 589 = .ok (.aload_n 0, 1) := by decide +kernel
theorem dL_law_590 : decode cL_law 590 = .ok (.iload_n 3, 1) := by decide +kernel
theorem dL_law_591 : decode cL_law 591 = .ok (.iconst 1, 1) := by decide +kernel
theorem dL_law_592 : decode cL_law 592 = .ok (.iadd, 1) := by decide +kernel
theorem dL_law_593 : decode cL_law 593 = .ok (.iaload, 1) := by decide +kernel
theorem dL_law_594 : decode cL_law 594 = .ok (.aload_n 0, 1) := by decide +kernel
theorem dL_law_595 : decode cL_law 595 = .ok (.iload_n 3, 1) := by decide +kernel
theorem dL_law_596 : decode cL_law 596 = .ok (.iconst 2, 1) := by decide +kernel
theorem dL_law_597 : decode cL_law 597 = .ok (.iadd, 1) := by decide +kernel
theorem dL_law_598 : decode cL_law 598 = .ok (.iaload, 1) := by decide +kernel
theorem dL_law_599 : decode cL_law 599 = .ok (.invokevirtual 63, 3) := by decide +kernel
theorem dL_law_602 : decode cL_law 602 = .ok (.aload_n 2, 1) := by decide +kernel
theorem dL_law_603 : decode cL_law 603 = .ok (.aload_n 0, 1) := by decide +kernel
theorem dL_law_604 : decode cL_law 604 = .ok (.iload_n 3, 1) := by decide +kernel
theorem dL_law_605 : decode cL_law 605 = .ok (.iconst 1, 1) := by decide +kernel
theorem dL_law_606 : decode cL_law 606 = .ok (.iadd, 1) := by decide +kernel
theorem dL_law_607 : decode cL_law 607 = .ok (.iaload, 1) := by decide +kernel
theorem dL_law_608 : decode cL_law 608 = .ok (.aload_n 0, 1) := by decide +kernel
theorem dL_law_609 : decode cL_law 609 = .ok (.iload_n 3, 1) := by decide +kernel
theorem dL_law_610 : decode cL_law 610 = .ok (.iconst 2, 1) := by decide +kernel
theorem dL_law_611 : decode cL_law 611 = .ok (.iadd, 1) := by decide +kernel
theorem dL_law_612 : decode cL_law 612 = .ok (.iaload, 1) := by decide +kernel
theorem dL_law_613 : decode cL_law 613 = .ok (.invokevirtual 66, 3) := by decide +kernel
theorem dL_law_616 : decode cL_law 616 = .ok (.if_icmp .eq 304, 3) := by decide +kernel
theorem dL_law_619 : decode cL_law 619 = .ok (.iconst 0, 1) := by decide +kernel
theorem dL_law_620 : decode cL_law 620 = .ok (.ireturn, 1) := by decide +kernel
theorem dL_law_621 : decode cL_law 621 = .ok (.aload_n 1, 1) := by decide +kernel
theorem dL_law_622 : decode cL_law 622 = .ok (.invokevirtual 67, 3) := by decide +kernel
theorem dL_law_625 : decode cL_law 625 = .ok (.aload_n 2, 1) := by decide +kernel
theorem dL_law_626 : decode cL_law 626 = .ok (.invokevirtual 71, 3) := by decide +kernel
theorem dL_law_629 : decode cL_law 629 = .ok (.if_icmp .eq 291, 3) := by decide +kernel
theorem dL_law_632 : decode cL_law 632 = .ok (.iconst 0, 1) := by decide +kernel
theorem dL_law_633 : decode cL_law 633 = .ok (.ireturn, 1) := by decide +kernel
theorem dL_law_634 : decode cL_law 634 = .ok (.aload_n 1, 1) := by decide +kernel
theorem dL_law_635 : decode cL_law 635 = .ok (.aload_n 0, 1) := by decide +kernel
theorem dL_law_636 : decode cL_law 636 = .ok (.iload_n 3, 1) := by decide +kernel
theorem dL_law_637 : decode cL_law 637 = .ok (.iconst 1, 1) := by decide +kernel
theorem dL_law_638 : decode cL_law 638 = .ok (.iadd, 1) := by decide +kernel
theorem dL_law_639 : decode cL_law 639 = .ok (.iaload, 1) := by decide +kernel
theorem dL_law_640 : decode cL_law 640 = .ok (.invokevirtual 72, 3) := by decide +kernel
theorem dL_law_643 : decode cL_law 643 = .ok (.aload_n 2, 1) := by decide +kernel
theorem dL_law_644 : decode cL_law 644 = .ok (.aload_n 0, 1) := by decide +kernel
theorem dL_law_645 : decode cL_law 645 = .ok (.iload_n 3, 1) := by decide +kernel
theorem dL_law_646 : decode cL_law 646 = .ok (.iconst 1, 1) := by decide +kernel
theorem dL_law_647 : decode cL_law 647 = .ok (.iadd, 1) := by decide +kernel
theorem dL_law_648 : decode cL_law 648 = .ok (.iaload, 1) := by decide +kernel
theorem dL_law_649 : decode cL_law 649 = .ok (.invokevirtual 76, 3) := by decide +kernel
theorem dL_law_652 : decode cL_law 652 = .ok (.if_icmp .eq 268, 3) := by decide +kernel
theorem dL_law_655 : decode cL_law 655 = .ok (.iconst 0, 1) := by decide +kernel
theorem dL_law_656 : decode cL_law 656 = .ok (.ireturn, 1) := by decide +kernel
theorem dL_law_657 : decode cL_law 657 = .ok (.aload_n 1, 1) := by decide +kernel
theorem dL_law_658 : decode cL_law 658 = .ok (.aload_n 0, 1) := by decide +kernel
theorem dL_law_659 : decode cL_law 659 = .ok (.iload_n 3, 1) := by decide +kernel
theorem dL_law_660 : decode cL_law 660 = .ok (.iconst 1, 1) := by decide +kernel
theorem dL_law_661 : decode cL_law 661 = .ok (.iadd, 1) := by decide +kernel
theorem dL_law_662 : decode cL_law 662 = .ok (.iaload, 1) := by decide +kernel
theorem dL_law_663 : decode cL_law 663 = .ok (.aload_n 0, 1) := by decide +kernel
theorem dL_law_664 : decode cL_law 664 = .ok (.iload_n 3, 1) := by decide +kernel
theorem dL_law_665 : decode cL_law 665 = .ok (.iconst 2, 1) := by decide +kernel
theorem dL_law_666 : decode cL_law 666 = .ok (.iadd, 1) := by decide +kernel
theorem dL_law_667 : decode cL_law 667 = .ok (.iaload, 1) := by decide +kernel
theorem dL_law_668 : decode cL_law 668 = .ok (.invokevirtual 77, 3) := by decide +kernel
theorem dL_law_671 : decode cL_law 671 = .ok (.aload_n 2, 1) := by decide +kernel
theorem dL_law_672 : decode cL_law 672 = .ok (.aload_n 0, 1) := by decide +kernel
theorem dL_law_673 : decode cL_law 673 = .ok (.iload_n 3, 1) := by decide +kernel
theorem dL_law_674 : decode cL_law 674 = .ok (.iconst 1, 1) := by decide +kernel
theorem dL_law_675 : decode cL_law 675 = .ok (.iadd, 1) := by decide +kernel
theorem dL_law_676 : decode cL_law 676 = .ok (.iaload, 1) := by decide +kernel
theorem dL_law_677 : decode cL_law 677 = .ok (.aload_n 0, 1) := by decide +kernel
theorem dL_law_678 : decode cL_law 678 = .ok (.iload_n 3, 1) := by decide +kernel
theorem dL_law_679 : decode cL_law 679 = .ok (.iconst 2, 1) := by decide +kernel
theorem dL_law_680 : decode cL_law 680 = .ok (.iadd, 1) := by decide +kernel
theorem dL_law_681 : decode cL_law 681 = .ok (.iaload, 1) := by decide +kernel
theorem dL_law_682 : decode cL_law 682 = .ok (.invokevirtual 80, 3) := by decide +kernel
theorem dL_law_685 : decode cL_law 685 = .ok (.if_icmp .eq 235, 3) := by decide +kernel
theorem dL_law_688 : decode cL_law 688 = .ok (.iconst 0, 1) := by decide +kernel
theorem dL_law_689 : decode cL_law 689 = .ok (.ireturn, 1) := by decide +kernel
theorem dL_law_690 : decode cL_law 690 = .ok (.aload_n 1, 1) := by decide +kernel
theorem dL_law_691 : decode cL_law 691 = .ok (.invokevirtual 81, 3) := by decide +kernel
theorem dL_law_694 : decode cL_law 694 = .ok (.aload_n 2, 1) := by decide +kernel
theorem dL_law_695 : decode cL_law 695 = .ok (.invokevirtual 84, 3) := by decide +kernel
theorem dL_law_698 : decode cL_law 698 = .ok (.if_icmp .eq 222, 3) := by decide +kernel
theorem dL_law_701 : decode cL_law 701 = .ok (.iconst 0, 1) := by decide +kernel
theorem dL_law_702 : decode cL_law 702 = .ok (.ireturn, 1) := by decide +kernel
theorem dL_law_703 : decode cL_law 703 = .ok (.aload_n 1, 1) := by decide +kernel
theorem dL_law_704 : decode cL_law 704 = .ok (.invokevirtual 85, 3) := by decide +kernel
theorem dL_law_707 : decode cL_law 707 = .ok (.aload_n 2, 1) := by decide +kernel
theorem dL_law_708 : decode cL_law 708 = .ok (.invokevirtual 88, 3) := by decide +kernel
theorem dL_law_711 : decode cL_law 711 = .ok (.if_icmp .eq 209, 3) := by decide +kernel
theorem dL_law_714 : decode cL_law 714 = .ok (.iconst 0, 1) := by decide +kernel
theorem dL_law_715 : decode cL_law 715 = .ok (.ireturn, 1) := by decide +kernel
theorem dL_law_716 : decode cL_law 716 = .ok (.aload_n 1, 1) := by decide +kernel
theorem dL_law_717 : decode cL_law 717 = .ok (.aload_n 0, 1) := by decide +kernel
theorem dL_law_718 : decode cL_law 718 = .ok (.iload_n 3, 1) := by decide +kernel
theorem dL_law_719 : decode cL_law 719 = .ok (.iconst 1, 1) := by decide +kernel
theorem dL_law_720 : decode cL_law 720 = .ok (.iadd, 1) := by decide +kernel
theorem dL_law_721 : decode cL_law 721 = .ok (.iaload, 1) := by decide +kernel
theorem dL_law_722 : decode cL_law 722 = .ok (.aload_n 0, 1) := by decide +kernel
theorem dL_law_723 : decode cL_law 723 = .ok (.iload_n 3, 1) := by decide +kernel
theorem dL_law_724 : decode cL_law 724 = .ok (.iconst 2, 1) := by decide +kernel
theorem dL_law_725 : decode cL_law 725 = .ok (.iadd, 1) := by decide +kernel
theorem dL_law_726 : decode cL_law 726 = .ok (.iaload, 1) := by decide +kernel
theorem dL_law_727 : decode cL_law 727 = .ok (.aload_n 0, 1) := by decide +kernel
theorem dL_law_728 : decode cL_law 728 = .ok (.iload_n 3, 1) := by decide +kernel
theorem dL_law_729 : decode cL_law 729 = .ok (.iconst 3, 1) := by decide +kernel
theorem dL_law_730 : decode cL_law 730 = .ok (.iadd, 1) := by decide +kernel
theorem dL_law_731 : decode cL_law 731 = .ok (.iaload, 1) := by decide +kernel
theorem dL_law_732 : decode cL_law 732 = .ok (.invokevirtual 89, 3) := by decide +kernel
theorem dL_law_735 : decode cL_law 735 = .ok (.aload_n 2, 1) := by decide +kernel
theorem dL_law_736 : decode cL_law 736 = .ok (.aload_n 0, 1) := by decide +kernel
theorem dL_law_737 : decode cL_law 737 = .ok (.iload_n 3, 1) := by decide +kernel
theorem dL_law_738 : decode cL_law 738 = .ok (.iconst 1, 1) := by decide +kernel
theorem dL_law_739 : decode cL_law 739 = .ok (.iadd, 1) := by decide +kernel
theorem dL_law_740 : decode cL_law 740 = .ok (.iaload, 1) := by decide +kernel
theorem dL_law_741 : decode cL_law 741 = .ok (.aload_n 0, 1) := by decide +kernel
theorem dL_law_742 : decode cL_law 742 = .ok (.iload_n 3, 1) := by decide +kernel
theorem dL_law_743 : decode cL_law 743 = .ok (.iconst 2, 1) := by decide +kernel
theorem dL_law_744 : decode cL_law 744 = .ok (.iadd, 1) := by decide +kernel
theorem dL_law_745 : decode cL_law 745 = .ok (.iaload, 1) := by decide +kernel
theorem dL_law_746 : decode cL_law 746 = .ok (.aload_n 0, 1) := by decide +kernel
theorem dL_law_747 : decode cL_law 747 = .ok (.iload_n 3, 1) := by decide +kernel
theorem dL_law_748 : decode cL_law 748 = .ok (.iconst 3, 1) := by decide +kernel
theorem dL_law_749 : decode cL_law 749 = .ok (.iadd, 1) := by decide +kernel
theorem dL_law_750 : decode cL_law 750 = .ok (.iaload, 1) := by decide +kernel
theorem dL_law_751 : decode cL_law 751 = .ok (.invokevirtual 92, 3) := by decide +kernel
theorem dL_law_754 : decode cL_law 754 = .ok (.if_icmp .eq 166, 3) := by decide +kernel
theorem dL_law_757 : decode cL_law 757 = .ok (.iconst 0, 1) := by decide +kernel
theorem dL_law_758 : decode cL_law 758 = .ok (.ireturn, 1) := by decide +kernel
theorem dL_law_759 : decode cL_law 759 = .ok (.aload_n 1, 1) := by decide +kernel
theorem dL_law_760 : decode cL_law 760 = .ok (.aload_n 0, 1) := by decide +kernel
theorem dL_law_761 : decode cL_law 761 = .ok (.iload_n 3, 1) := by decide +kernel
theorem dL_law_762 : decode cL_law 762 = .ok (.iconst 1, 1) := by decide +kernel
theorem dL_law_763 : decode cL_law 763 = .ok (.iadd, 1) := by decide +kernel
theorem dL_law_764 : decode cL_law 764 = .ok (.iaload, 1) := by decide +kernel
theorem dL_law_765 : decode cL_law 765 = .ok (.aload_n 0, 1) := by decide +kernel
theorem dL_law_766 : decode cL_law 766 = .ok (.iload_n 3, 1) := by decide +kernel
theorem dL_law_767 : decode cL_law 767 = .ok (.iconst 2, 1) := by decide +kernel
theorem dL_law_768 : decode cL_law 768 = .ok (.iadd, 1) := by decide +kernel
theorem dL_law_769 : decode cL_law 769 = .ok (.iaload, 1) := by decide +kernel
theorem dL_law_770 : decode cL_law 770 = .ok (.aload_n 0, 1) := by decide +kernel
theorem dL_law_771 : decode cL_law 771 = .ok (.iload_n 3, 1) := by decide +kernel
theorem dL_law_772 : decode cL_law 772 = .ok (.iconst 3, 1) := by decide +kernel
theorem dL_law_773 : decode cL_law 773 = .ok (.iadd, 1) := by decide +kernel
theorem dL_law_774 : decode cL_law 774 = .ok (.iaload, 1) := by decide +kernel
theorem dL_law_775 : decode cL_law 775 = .ok (.invokevirtual 93, 3) := by decide +kernel
theorem dL_law_778 : decode cL_law 778 = .ok (.aload_n 2, 1) := by decide +kernel
theorem dL_law_779 : decode cL_law 779 = .ok (.aload_n 0, 1) := by decide +kernel
theorem dL_law_780 : decode cL_law 780 = .ok (.iload_n 3, 1) := by decide +kernel
theorem dL_law_781 : decode cL_law 781 = .ok (.iconst 1, 1) := by decide +kernel
theorem dL_law_782 : decode cL_law 782 = .ok (.iadd, 1) := by decide +kernel
theorem dL_law_783 : decode cL_law 783 = .ok (.iaload, 1) := by decide +kernel
theorem dL_law_784 : decode cL_law 784 = .ok (.aload_n 0, 1) := by decide +kernel
theorem dL_law_785 : decode cL_law 785 = .ok (.iload_n 3, 1) := by decide +kernel
theorem dL_law_786 : decode cL_law 786 = .ok (.iconst 2, 1) := by decide +kernel
theorem dL_law_787 : decode cL_law 787 = .ok (.iadd, 1) := by decide +kernel
theorem dL_law_788 : decode cL_law 788 = .ok (.iaload, 1) := by decide +kernel
theorem dL_law_789 : decode cL_law 789 = .ok (.aload_n 0, 1) := by decide +kernel
theorem dL_law_790 : decode cL_law 790 = .ok (.iload_n 3, 1) := by decide +kernel
theorem dL_law_791 : decode cL_law 791 = .ok (.iconst 3, 1) := by decide +kernel
theorem dL_law_792 : decode cL_law 792 = .ok (.iadd, 1) := by decide +kernel
theorem dL_law_793 : decode cL_law 793 = .ok (.iaload, 1) := by decide +kernel
theorem dL_law_794 : decode cL_law 794 = .ok (.invokevirtual 96, 3) := by decide +kernel
theorem dL_law_797 : decode cL_law 797 = .ok (.if_icmp .eq 123, 3) := by decide +kernel
theorem dL_law_800 : decode cL_law 800 = .ok (.iconst 0, 1) := by decide +kernel
theorem dL_law_801 : decode cL_law 801 = .ok (.ireturn, 1) := by decide +kernel
theorem dL_law_802 : decode cL_law 802 = .ok (.aload_n 1, 1) := by decide +kernel
theorem dL_law_803 : decode cL_law 803 = .ok (.aload_n 0, 1) := by decide +kernel
theorem dL_law_804 : decode cL_law 804 = .ok (.iload_n 3, 1) := by decide +kernel
theorem dL_law_805 : decode cL_law 805 = .ok (.iconst 1, 1) := by decide +kernel
theorem dL_law_806 : decode cL_law 806 = .ok (.iadd, 1) := by decide +kernel
theorem dL_law_807 : decode cL_law 807 = .ok (.iaload, 1) := by decide +kernel
theorem dL_law_808 : decode cL_law 808 = .ok (.aload_n 0, 1) := by decide +kernel
theorem dL_law_809 : decode cL_law 809 = .ok (.iload_n 3, 1) := by decide +kernel
theorem dL_law_810 : decode cL_law 810 = .ok (.iconst 2, 1) := by decide +kernel
theorem dL_law_811 : decode cL_law 811 = .ok (.iadd, 1) := by decide +kernel
theorem dL_law_812 : decode cL_law 812 = .ok (.iaload, 1) := by decide +kernel
theorem dL_law_813 : decode cL_law 813 = .ok (.invokevirtual 97, 3) := by decide +kernel
theorem dL_law_816 : decode cL_law 816 = .ok (.aload_n 2, 1) := by decide +kernel
theorem dL_law_817 : decode cL_law 817 = .ok (.aload_n 0, 1) := by decide +kernel
theorem dL_law_818 : decode cL_law 818 = .ok (.iload_n 3, 1) := by decide +kernel
theorem dL_law_819 : decode cL_law 819 = .ok (.iconst 1, 1) := by decide +kernel
theorem dL_law_820 : decode cL_law 820 = .ok (.iadd, 1) := by decide +kernel
theorem dL_law_821 : decode cL_law 821 = .ok (.iaload, 1) := by decide +kernel
theorem dL_law_822 : decode cL_law 822 = .ok (.aload_n 0, 1) := by decide +kernel
theorem dL_law_823 : decode cL_law 823 = .ok (.iload_n 3, 1) := by decide +kernel
theorem dL_law_824 : decode cL_law 824 = .ok (.iconst 2, 1) := by decide +kernel
theorem dL_law_825 : decode cL_law 825 = .ok (.iadd, 1) := by decide +kernel
theorem dL_law_826 : decode cL_law 826 = .ok (.iaload, 1) := by decide +kernel
theorem dL_law_827 : decode cL_law 827 = .ok (.invokevirtual 100, 3) := by decide +kernel
theorem dL_law_830 : decode cL_law 830 = .ok (.if_icmp .eq 90, 3) := by decide +kernel
theorem dL_law_833 : decode cL_law 833 = .ok (.iconst 0, 1) := by decide +kernel
theorem dL_law_834 : decode cL_law 834 = .ok (.ireturn, 1) := by decide +kernel
theorem dL_law_835 : decode cL_law 835 = .ok (.aload_n 1, 1) := by decide +kernel
theorem dL_law_836 : decode cL_law 836 = .ok (.invokevirtual 101, 3) := by decide +kernel
theorem dL_law_839 : decode cL_law 839 = .ok (.aload_n 2, 1) := by decide +kernel
theorem dL_law_840 : decode cL_law 840 = .ok (.invokevirtual 104, 3) := by decide +kernel
theorem dL_law_843 : decode cL_law 843 = .ok (.if_icmp .eq 77, 3) := by decide +kernel
theorem dL_law_846 : decode cL_law 846 = .ok (.iconst 0, 1) := by decide +kernel
theorem dL_law_847 : decode cL_law 847 = .ok (.ireturn, 1) := by decide +kernel
theorem dL_law_848 : decode cL_law 848 = .ok (.aload_n 1, 1) := by decide +kernel
theorem dL_law_849 : decode cL_law 849 = .ok (.aload_n 0, 1) := by decide +kernel
theorem dL_law_850 : decode cL_law 850 = .ok (.iload_n 3, 1) := by decide +kernel
theorem dL_law_851 : decode cL_law 851 = .ok (.iconst 1, 1) := by decide +kernel
theorem dL_law_852 : decode cL_law 852 = .ok (.iadd, 1) := by decide +kernel
theorem dL_law_853 : decode cL_law 853 = .ok (.iaload, 1) := by decide +kernel
theorem dL_law_854 : decode cL_law 854 = .ok (.invokevirtual 105, 3) := by decide +kernel
theorem dL_law_857 : decode cL_law 857 = .ok (.aload_n 2, 1) := by decide +kernel
theorem dL_law_858 : decode cL_law 858 = .ok (.aload_n 0, 1) := by decide +kernel
theorem dL_law_859 : decode cL_law 859 = .ok (.iload_n 3, 1) := by decide +kernel
theorem dL_law_860 : decode cL_law 860 = .ok (.iconst 1, 1) := by decide +kernel
theorem dL_law_861 : decode cL_law 861 = .ok (.iadd, 1) := by decide +kernel
theorem dL_law_862 : decode cL_law 862 = .ok (.iaload, 1) := by decide +kernel
theorem dL_law_863 : decode cL_law 863 = .ok (.invokevirtual 108, 3) := by decide +kernel
theorem dL_law_866 : decode cL_law 866 = .ok (.if_icmp .eq 54, 3) := by decide +kernel
theorem dL_law_869 : decode cL_law 869 = .ok (.iconst 0, 1) := by decide +kernel
theorem dL_law_870 : decode cL_law 870 = .ok (.ireturn, 1) := by decide +kernel
theorem dL_law_871 : decode cL_law 871 = .ok (.aload_n 1, 1) := by decide +kernel
theorem dL_law_872 : decode cL_law 872 = .ok (.aload_n 0, 1) := by decide +kernel
theorem dL_law_873 : decode cL_law 873 = .ok (.iload_n 3, 1) := by decide +kernel
theorem dL_law_874 : decode cL_law 874 = .ok (.iconst 1, 1) := by decide +kernel
theorem dL_law_875 : decode cL_law 875 = .ok (.iadd, 1) := by decide +kernel
theorem dL_law_876 : decode cL_law 876 = .ok (.iaload, 1) := by decide +kernel
theorem dL_law_877 : decode cL_law 877 = .ok (.invokevirtual 109, 3) := by decide +kernel
theorem dL_law_880 : decode cL_law 880 = .ok (.aload_n 2, 1) := by decide +kernel
theorem dL_law_881 : decode cL_law 881 = .ok (.aload_n 0, 1) := by decide +kernel
theorem dL_law_882 : decode cL_law 882 = .ok (.iload_n 3, 1) := by decide +kernel
theorem dL_law_883 : decode cL_law 883 = .ok (.iconst 1, 1) := by decide +kernel
theorem dL_law_884 : decode cL_law 884 = .ok (.iadd, 1) := by decide +kernel
theorem dL_law_885 : decode cL_law 885 = .ok (.iaload, 1) := by decide +kernel
theorem dL_law_886 : decode cL_law 886 = .ok (.invokevirtual 112, 3) := by decide +kernel
theorem dL_law_889 : decode cL_law 889 = .ok (.if_icmp .eq 31, 3) := by decide +kernel
theorem dL_law_892 : decode cL_law 892 = .ok (.iconst 0, 1) := by decide +kernel
theorem dL_law_893 : decode cL_law 893 = .ok (.ireturn, 1) := by decide +kernel
theorem dL_law_894 : decode cL_law 894 = .ok (.aload_n 1, 1) := by decide +kernel
theorem dL_law_895 : decode cL_law 895 = .ok (.invokevirtual 113, 3) := by decide +kernel
theorem dL_law_898 : decode cL_law 898 = .ok (.aload_n 2, 1) := by decide +kernel
theorem dL_law_899 : decode cL_law 899 = .ok (.invokevirtual 116, 3) := by decide +kernel
theorem dL_law_902 : decode cL_law 902 = .ok (.if_icmp .eq 18, 3) := by decide +kernel
theorem dL_law_905 : decode cL_law 905 = .ok (.iconst 0, 1) := by decide +kernel
theorem dL_law_906 : decode cL_law 906 = .ok (.ireturn, 1) := by decide +kernel
theorem dL_law_907 : decode cL_law 907 = .ok (.aload_n 1, 1) := by decide +kernel
theorem dL_law_908 : decode cL_law 908 = .ok (.invokevirtual 117, 3) := by decide +kernel
theorem dL_law_911 : decode cL_law 911 = .ok (.aload_n 2, 1) := by decide +kernel
theorem dL_law_912 : decode cL_law 912 = .ok (.invokevirtual 120, 3) := by decide +kernel
theorem dL_law_915 : decode cL_law 915 = .ok (.if_icmp .eq 5, 3) := by decide +kernel
theorem dL_law_918 : decode cL_law 918 = .ok (.iconst 0, 1) := by decide +kernel
theorem dL_law_919 : decode cL_law 919 = .ok (.ireturn, 1) := by decide +kernel
theorem dL_law_920 : decode cL_law 920 = .ok (.iinc 3 4, 3) := by decide +kernel
theorem dL_law_923 : decode cL_law 923 = .ok (.goto (-905), 3) := by decide +kernel
theorem dL_law_926 : decode cL_law 926 = .ok (.iconst 1, 1) := by decide +kernel
theorem dL_law_927 : decode cL_law 927 = .ok (.ireturn, 1) := by decide +kernel
end
section
/-! THE FIXED WORLD: a list of shapes (an int array of n places; an object of class number ci whose fields are ints (none) or the cell t (some t)), and a memory of ints. -/
abbrev zz_Mem : Type := Nat → Nat → Int32
abbrev zz_Sh : Type := Sum Nat (Nat × List (Option Nat))
def zz_fv (ad : Nat → Nat) (f : Nat → Int32) (j : Nat) (o : Option Nat) : Value := match o with
  | none => .int (f j)
  | some t => .ref (ad t)
def zz_fs (ad : Nat → Nat) (f : Nat → Int32) (fs : List (Option Nat)) : List Value := fs.mapIdx (zz_fv ad f)
def zz_cel (cI : ClassId) (ad : Nat → Nat) (M : zz_Mem) (k : Nat) (sh : zz_Sh) : Nat × va_E := match sh with
  | .inl n => (ad k, .inl (cI, n, .inl (M k)))
  | .inr o => (ad k, .inr (o.1, zz_fs ad (M k) o.2))
def zz_cells (S : List zz_Sh) (cI : ClassId) (ad : Nat → Nat) (M : zz_Mem) : va_W := S.mapIdx (zz_cel cI ad M)
def zz_set (M : zz_Mem) (k : Nat) (f : Nat → Int32) : zz_Mem := fun a => if a = k then f else M a
def zz_up (M : zz_Mem) (k i : Nat) (x : Int32) : zz_Mem := zz_set M k (upd (M k) i x)
def zz_A (S : List zz_Sh) (ad : Nat → Nat) (q : Nat) : Prop := ∃ k, k < S.length ∧ q = ad k
theorem zz_set_self (M : zz_Mem) (k : Nat) (f : Nat → Int32) : zz_set M k f k = f := by simp [zz_set]
theorem zz_set_ne (M : zz_Mem) {k a : Nat} (f : Nat → Int32) (h : a ≠ k) : zz_set M k f a = M a := by simp [zz_set, h]
theorem zz_cells_at {S : List zz_Sh} {cI : ClassId} {ad : Nat → Nat} {M : zz_Mem} {k : Nat} {sh : zz_Sh} (h : S[k]? = some sh) : (zz_cells S cI ad M)[k]? = some (zz_cel cI ad M k sh) := by
  simp [zz_cells, List.getElem?_mapIdx, h]
theorem zz_cells_set {S : List zz_Sh} {cI : ClassId} {ad : Nat → Nat} {M : zz_Mem} {k : Nat} {sh : zz_Sh} (f : Nat → Int32) (h : S[k]? = some sh) : (zz_cells S cI ad M).set k (zz_cel cI ad (zz_set M k f) k sh) = zz_cells S cI ad (zz_set M k f) := by
  have hk : k < S.length := (List.getElem?_eq_some_iff.mp h).1
  apply List.ext_getElem?
  intro i
  by_cases hi : i = k
  · subst hi
    rw [List.getElem?_set_self (by simpa [zz_cells] using hk), zz_cells_at h]
  · rw [List.getElem?_set_ne (fun z => hi z.symm)]
    simp only [zz_cells, List.getElem?_mapIdx]
    cases hs : S[i]? with
    | none => rfl
    | some sh' =>
      have : zz_cel cI ad M i sh' = zz_cel cI ad (zz_set M k f) i sh' := by
        cases sh' <;> simp [zz_cel, zz_set_ne M f hi]
      simp [this]
theorem zz_cells_arr {S : List zz_Sh} {cI : ClassId} {ad : Nat → Nat} {M : zz_Mem} {k n : Nat} (f : Nat → Int32) (h : S[k]? = some (.inl n)) : (zz_cells S cI ad M).set k (ad k, .inl (cI, n, .inl f)) = zz_cells S cI ad (zz_set M k f) := by
  rw [← zz_cells_set f h]
  simp [zz_cel, zz_set_self]
theorem zz_fs_at {ad : Nat → Nat} {f : Nat → Int32} {fs : List (Option Nat)} {j : Nat} {o : Option Nat} (h : fs[j]? = some o) : (zz_fs ad f fs)[j]? = some (zz_fv ad f j o) := by
  simp [zz_fs, List.getElem?_mapIdx, h]
theorem zz_fs_set {ad : Nat → Nat} {f : Nat → Int32} {fs : List (Option Nat)} {j : Nat} (x : Int32) (h : fs[j]? = some none) : (zz_fs ad f fs).set j (.int x) = zz_fs ad (upd f j x) fs := by
  have hk : j < fs.length := (List.getElem?_eq_some_iff.mp h).1
  apply List.ext_getElem?
  intro i
  by_cases hi : i = j
  · subst hi
    rw [List.getElem?_set_self (by simpa [zz_fs] using hk), zz_fs_at h]
    simp [zz_fv, upd]
  · rw [List.getElem?_set_ne (fun z => hi z.symm)]
    simp only [zz_fs, List.getElem?_mapIdx]
    cases hs : fs[i]? with
    | none => rfl
    | some o => cases o <;> simp [zz_fv, upd, hi]
theorem zz_cells_obj {S : List zz_Sh} {cI : ClassId} {ad : Nat → Nat} {M : zz_Mem} {k j ci : Nat} {fs : List (Option Nat)} (x : Int32) (h : S[k]? = some (.inr (ci, fs))) (hj : fs[j]? = some none) : (zz_cells S cI ad M).set k (ad k, .inr (ci, (zz_fs ad (M k) fs).set j (.int x))) = zz_cells S cI ad (zz_up M k j x) := by
  unfold zz_up
  rw [← zz_cells_set (upd (M k) j x) h, zz_fs_set x hj]
  simp [zz_cel, zz_set_self]
theorem zz_cells_len (S : List zz_Sh) (cI : ClassId) (ad : Nat → Nat) (M : zz_Mem) : (zz_cells S cI ad M).length = S.length := by simp [zz_cells]
theorem zz_cel_ad {cI : ClassId} {ad : Nat → Nat} {M : zz_Mem} {k : Nat} {sh : zz_Sh} : (zz_cel cI ad M k sh).1 = ad k := by cases sh <;> rfl
theorem zz_A_of {S : List zz_Sh} {cI : ClassId} {ad : Nat → Nat} {M : zz_Mem} {A : Nat → Prop} (hD : va_D A (zz_cells S cI ad M)) : ∀ q, zz_A S ad q → A q := by
  rintro q ⟨k, hk, rfl⟩
  have h : S[k]? = some S[k] := List.getElem?_eq_getElem hk
  have := hD.2 k _ (zz_cells_at (cI := cI) (ad := ad) (M := M) h)
  rwa [zz_cel_ad] at this
/-- the cells' addresses say nothing of the memory -/
theorem zz_D_mem {S : List zz_Sh} {cI : ClassId} {ad : Nat → Nat} {M M' : zz_Mem} {A : Nat → Prop} (hD : va_D A (zz_cells S cI ad M)) : va_D A (zz_cells S cI ad M') := by
  have key : ∀ (k : Nat) (q : Nat × va_E), (zz_cells S cI ad M')[k]? = some q → ∃ q0, (zz_cells S cI ad M)[k]? = some q0 ∧ q0.1 = q.1 := by
    intro k q hq
    have hk : k < S.length := by
      have := (List.getElem?_eq_some_iff.mp hq).1
      rwa [zz_cells_len] at this
    have h : S[k]? = some S[k] := List.getElem?_eq_getElem hk
    rw [zz_cells_at h] at hq
    cases hq
    exact ⟨_, zz_cells_at h, by rw [zz_cel_ad, zz_cel_ad]⟩
  refine ⟨fun i j x y hx hy hxy => ?_, fun k q hq => ?_⟩
  · obtain ⟨x0, h1, h2⟩ := key i x hx
    obtain ⟨y0, h3, h4⟩ := key j y hy
    exact hD.1 i j x0 y0 h1 h3 (by rw [h2, h4, hxy])
  · obtain ⟨q0, h1, h2⟩ := key k q hq
    rw [← h2]
    exact hD.2 k q0 h1
/-! THE WORDS: those of the tables that every later state keeps, and the links among nest mates -/
def zz_gW : List Cond := lw_tbl.filter goodWord
def zz_nF : List (String × Nat × String × String × String × String) := lw_tbl.filterMap (fun w => match w with
  | .fieldLinkNest a i b n d h => some (a, i, b, n, d, h)
  | _ => none)
def zz_nM : List (String × Nat × MethodName × String) := lw_tbl.filterMap (fun w => match w with
  | .methodLinkNest a i x h => some (a, i, x, h)
  | _ => none)
def zz_N (U : State) : Prop := (∀ q ∈ zz_nF, va_Nw (.fieldLinkNest q.1 q.2.1 q.2.2.1 q.2.2.2.1 q.2.2.2.2.1 q.2.2.2.2.2) U) ∧ ∀ q ∈ zz_nM, va_Nw (.methodLinkNest q.1 q.2.1 q.2.2.1 q.2.2.2) U
theorem zz_N.warm {s U : State} (hW : s.WarmedH U.vm) (h : zz_N s) : zz_N U := ⟨fun q hq => va_Nw.warmF hW (h.1 q hq), fun q hq => va_Nw.warmM hW (h.2 q hq)⟩
theorem zz_N.same {u U : State} (hv : u.vm = U.vm) (h : zz_N u) : zz_N U := ⟨fun q hq => va_Nw.same rfl hv (h.1 q hq), fun q hq => va_Nw.same rfl hv (h.2 q hq)⟩
theorem zz_N.of {args : Array Value} {s : State} (hts : ∀ w ∈ lw_tbl, w.before args s = true) : zz_N s := by
  refine ⟨fun q hq => va_Nw.of rfl (A := args) (hts _ ?_), fun q hq => va_Nw.of rfl (A := args) (hts _ ?_)⟩
  · obtain ⟨w, h1, h2⟩ := List.mem_filterMap.mp hq
    cases w <;> simp at h2
    subst h2
    exact h1
  · obtain ⟨w, h1, h2⟩ := List.mem_filterMap.mp hq
    cases w <;> simp at h2
    subst h2
    exact h1
theorem zz_good {y : MethodName} {cc : ByteArray} {maxL : Nat} {ret : Option FieldType} (h : Cond.code y cc maxL ret ∈ zz_gW) : GoodIn zz_gW (.code y cc maxL ret :: zz_gW) := by
  intro w hw
  have hw' : w ∈ zz_gW := by
    rcases List.mem_cons.mp hw with e | e
    · rw [e]; exact h
    · exact e
  exact ⟨hw', good_of_word (List.mem_filter.mp hw').2⟩
/-- a word by its place in the tables -/
theorem zz_w {w : Cond} (i : Nat) (h : lw_tbl[i]? = some w) (hg : goodWord w = true) : w ∈ zz_gW := List.mem_filter.mpr ⟨List.mem_of_getElem? h, hg⟩
theorem zz_wF {a : String} {i : Nat} {b n d h : String} (k : Nat) (hk : lw_tbl[k]? = some (.fieldLinkNest a i b n d h)) : (a, i, b, n, d, h) ∈ zz_nF := List.mem_filterMap.mpr ⟨_, List.mem_of_getElem? hk, rfl⟩
theorem zz_wM {a : String} {i : Nat} {x : MethodName} {h : String} (k : Nat) (hk : lw_tbl[k]? = some (.methodLinkNest a i x h)) : (a, i, x, h) ∈ zz_nM := List.mem_filterMap.mpr ⟨_, List.mem_of_getElem? hk, rfl⟩
/-! THE WORLD OF A CALL, its contract, and the judgement inside a body -/
def zz_Wd (D : va_G) (S : List zz_Sh) (cI : ClassId) (ad : Nat → Nat) (M : zz_Mem) (U : State) : Prop :=
  va_P D vwCl (zz_cells S cI ad M) U.heap ∧ va_K D vwCl [(cI, .int)] U ∧ va_D (zz_A S ad) (zz_cells S cI ad M) ∧ zz_N U
def zz_Q (D : va_G) (S : List zz_Sh) (cI : ClassId) (ad : Nat → Nat) (v : Option Value) (M : zz_Mem) : Array Value → State → Outcome → State → Prop :=
  fun _ st oc t => oc = .returned v ∧ zz_Wd D S cI ad M t ∧ va_F (zz_A S ad) st t
abbrev zz_rm (d : Nat) : Room := { frames := d, cells := 0, slots := 0, locals := 64 * d }
def zz_K (l : Launch) (D : va_G) (S : List zz_Sh) (cI : ClassId) (ad : Nat → Nat) (d : Nat) (y : MethodName) (cc : ByteArray) (maxL : Nat) (ret : Option FieldType) (av : List Value) (M : zz_Mem) (v : Option Value) (M' : zz_Mem) : Prop :=
  Met l y (.code y cc maxL ret :: zz_gW) (zz_rm d) (va_Pc av (zz_Wd D S cI ad M)) (zz_Q D S cI ad v M') 0 0 (zz_A S ad)
def zz_C (p : Program) (R : Room) (s : State) (m : MethodId) (args : Array Value) (meth : Method) (c : Code) (D : va_G) (cI : ClassId) (own : String) (cc : ByteArray) (nL : Nat) (ret : Option FieldType) (kc ks : Nat) : Prop :=
  p.tables.exec = Jvm.exec ∧ c.code = cc ∧ c.maxLocals = nL ∧ s.vm.findClass own = some m.cls ∧ (∀ w ∈ zz_gW, w.before args s = true) ∧ va_K D vwCl [(cI, .int)] s ∧ zz_N s ∧ meth.sig.returnType = ret ∧ meth.locks = false ∧ kc ≤ R.cells ∧ ks ≤ R.slots
def zz_V (p : Program) (l : Launch) (e : Env) (R : Room) (s : State) (m : MethodId) (args : Array Value) (below : List Frame) (meth : Method) (c : Code) (D : va_G) (S : List zz_Sh) (cI : ClassId) (ad : Nat → Nat) (A : Nat → Prop) (nL kc ks : Nat) (Q : State → Prop) (pc : Nat) (L : List (Nat × Value)) (st : List Value) (M : zz_Mem) : Prop :=
  ∀ (H : Heap) (locs : List Loc) (ls : Array Slot), va_P D vwCl (zz_cells S cI ad M) H → va_D A (zz_cells S cI ad M) → va_S A s.heap H locs → lv_has ls nL L → W p l e R s m args below meth c H locs kc ks Q (F0 m pc ls st)
end
section
section ZR
variable {p : Program} {l : Launch} {e : Env} {R : Room} {s : State} {m : MethodId} {args : Array Value} {below : List Frame} {meth : Method} {c : Code} {D : va_G} {S : List zz_Sh} {cI : ClassId} {ad : Nat → Nat} {A : Nat → Prop} {own : String} {cc : ByteArray} {nL kc ks : Nat} {ret : Option FieldType} {Q : State → Prop} {pc : Nat} {L L' : List (Nat × Value)} {st : List Value} {M : zz_Mem}

theorem zz_iconst (n : Nat) (C : zz_C p R s m args meth c D cI own cc nL ret kc ks) {i : Int} {v : Int32} (hd : decode cc pc = .ok (.iconst i, 1)) (hn : pc + 1 = n) (hv : Int32.ofInt i = v) (kk : zz_V p l e R s m args below meth c D S cI ad A nL kc ks Q n L (.int v :: st) M) : zz_V p l e R s m args below meth c D S cI ad A nL kc ks Q pc L (st) M := by
  subst hn
  exact fun H locs ls hP hD hS hl => lv_iconst C.1 C.2.1 hd hv (kk H locs ls hP hD hS hl)
theorem zz_bipush (n : Nat) (C : zz_C p R s m args meth c D cI own cc nL ret kc ks) {i : Int} {v : Int32} (hd : decode cc pc = .ok (.bipush i, 2)) (hn : pc + 2 = n) (hv : (Int8.ofInt i).toInt32 = v) (kk : zz_V p l e R s m args below meth c D S cI ad A nL kc ks Q n L (.int v :: st) M) : zz_V p l e R s m args below meth c D S cI ad A nL kc ks Q pc L (st) M := by
  subst hn
  exact fun H locs ls hP hD hS hl => lv_bipush C.1 C.2.1 hd hv (kk H locs ls hP hD hS hl)
theorem zz_sipush (n : Nat) (C : zz_C p R s m args meth c D cI own cc nL ret kc ks) {i : Int} {v : Int32} (hd : decode cc pc = .ok (.sipush i, 3)) (hn : pc + 3 = n) (hv : (Int16.ofInt i).toInt32 = v) (kk : zz_V p l e R s m args below meth c D S cI ad A nL kc ks Q n L (.int v :: st) M) : zz_V p l e R s m args below meth c D S cI ad A nL kc ks Q pc L (st) M := by
  subst hn
  exact fun H locs ls hP hD hS hl => lv_sipush C.1 C.2.1 hd hv (kk H locs ls hP hD hS hl)
theorem zz_ldc (n : Nat) (C : zz_C p R s m args meth c D cI own cc nL ret kc ks) {i : Nat} {v : Int32} (hd : decode cc pc = .ok (.ldc i, 2)) (hn : pc + 2 = n) (hv : Cond.constant own i v ∈ zz_gW) (kk : zz_V p l e R s m args below meth c D S cI ad A nL kc ks Q n L (.int v :: st) M) : zz_V p l e R s m args below meth c D S cI ad A nL kc ks Q pc L (st) M := by
  subst hn
  exact fun H locs ls hP hD hS hl => lv_ldc C.1 C.2.1 C.2.2.2.1 (C.2.2.2.2.1 _ hv) hd (kk H locs ls hP hD hS hl)
theorem zz_ldcw (n : Nat) (C : zz_C p R s m args meth c D cI own cc nL ret kc ks) {i : Nat} {v : Int32} (hd : decode cc pc = .ok (.ldc_w i, 3)) (hn : pc + 3 = n) (hv : Cond.constant own i v ∈ zz_gW) (kk : zz_V p l e R s m args below meth c D S cI ad A nL kc ks Q n L (.int v :: st) M) : zz_V p l e R s m args below meth c D S cI ad A nL kc ks Q pc L (st) M := by
  subst hn
  exact fun H locs ls hP hD hS hl => lv_ldcw C.1 C.2.1 C.2.2.2.1 (C.2.2.2.2.1 _ hv) hd (kk H locs ls hP hD hS hl)
theorem zz_iload_n (n : Nat) (C : zz_C p R s m args meth c D cI own cc nL ret kc ks) {k : Fin 4} {v : Int32} (hd : decode cc pc = .ok (.iload_n k, 1)) (hn : pc + 1 = n) (q : Nat) (hq : L[q]? = some ((k : Nat), .int v)) (kk : zz_V p l e R s m args below meth c D S cI ad A nL kc ks Q n L (.int v :: st) M) : zz_V p l e R s m args below meth c D S cI ad A nL kc ks Q pc L (st) M := by
  subst hn
  exact fun H locs ls hP hD hS hl => lv_iload_n C.1 C.2.1 hd rfl (lv_at hl q hq) (kk H locs ls hP hD hS hl)
theorem zz_iload (n : Nat) (C : zz_C p R s m args meth c D cI own cc nL ret kc ks) {i : Nat} {v : Int32} (hd : decode cc pc = .ok (.iload i, 2)) (hn : pc + 2 = n) (q : Nat) (hq : L[q]? = some (i, .int v)) (kk : zz_V p l e R s m args below meth c D S cI ad A nL kc ks Q n L (.int v :: st) M) : zz_V p l e R s m args below meth c D S cI ad A nL kc ks Q pc L (st) M := by
  subst hn
  exact fun H locs ls hP hD hS hl => lv_iload C.1 C.2.1 hd (lv_at hl q hq) (kk H locs ls hP hD hS hl)
theorem zz_aload_n (n : Nat) (C : zz_C p R s m args meth c D cI own cc nL ret kc ks) {k : Fin 4} {v : Nat} (hd : decode cc pc = .ok (.aload_n k, 1)) (hn : pc + 1 = n) (q : Nat) (hq : L[q]? = some ((k : Nat), .ref v)) (kk : zz_V p l e R s m args below meth c D S cI ad A nL kc ks Q n L (.ref v :: st) M) : zz_V p l e R s m args below meth c D S cI ad A nL kc ks Q pc L (st) M := by
  subst hn
  exact fun H locs ls hP hD hS hl => lv_aload_n C.1 C.2.1 hd rfl (lv_at hl q hq) (kk H locs ls hP hD hS hl)
theorem zz_aload (n : Nat) (C : zz_C p R s m args meth c D cI own cc nL ret kc ks) {i : Nat} {v : Nat} (hd : decode cc pc = .ok (.aload i, 2)) (hn : pc + 2 = n) (q : Nat) (hq : L[q]? = some (i, .ref v)) (kk : zz_V p l e R s m args below meth c D S cI ad A nL kc ks Q n L (.ref v :: st) M) : zz_V p l e R s m args below meth c D S cI ad A nL kc ks Q pc L (st) M := by
  subst hn
  exact fun H locs ls hP hD hS hl => lv_aload C.1 C.2.1 hd (lv_at hl q hq) (kk H locs ls hP hD hS hl)
theorem zz_iadd (n : Nat) (C : zz_C p R s m args meth c D cI own cc nL ret kc ks) {x y : Int32} (hd : decode cc pc = .ok (.iadd, 1)) (hn : pc + 1 = n)  (kk : zz_V p l e R s m args below meth c D S cI ad A nL kc ks Q n L (.int (x + y) :: st) M) : zz_V p l e R s m args below meth c D S cI ad A nL kc ks Q pc L (.int y :: .int x :: st) M := by
  subst hn
  exact fun H locs ls hP hD hS hl => lv_iadd C.1 C.2.1 hd (kk H locs ls hP hD hS hl)
theorem zz_isub (n : Nat) (C : zz_C p R s m args meth c D cI own cc nL ret kc ks) {x y : Int32} (hd : decode cc pc = .ok (.isub, 1)) (hn : pc + 1 = n)  (kk : zz_V p l e R s m args below meth c D S cI ad A nL kc ks Q n L (.int (x - y) :: st) M) : zz_V p l e R s m args below meth c D S cI ad A nL kc ks Q pc L (.int y :: .int x :: st) M := by
  subst hn
  exact fun H locs ls hP hD hS hl => lv_isub C.1 C.2.1 hd (kk H locs ls hP hD hS hl)
theorem zz_imul (n : Nat) (C : zz_C p R s m args meth c D cI own cc nL ret kc ks) {x y : Int32} (hd : decode cc pc = .ok (.imul, 1)) (hn : pc + 1 = n)  (kk : zz_V p l e R s m args below meth c D S cI ad A nL kc ks Q n L (.int (x * y) :: st) M) : zz_V p l e R s m args below meth c D S cI ad A nL kc ks Q pc L (.int y :: .int x :: st) M := by
  subst hn
  exact fun H locs ls hP hD hS hl => lv_imul C.1 C.2.1 hd (kk H locs ls hP hD hS hl)
theorem zz_iand (n : Nat) (C : zz_C p R s m args meth c D cI own cc nL ret kc ks) {x y : Int32} (hd : decode cc pc = .ok (.iand, 1)) (hn : pc + 1 = n)  (kk : zz_V p l e R s m args below meth c D S cI ad A nL kc ks Q n L (.int (x &&& y) :: st) M) : zz_V p l e R s m args below meth c D S cI ad A nL kc ks Q pc L (.int y :: .int x :: st) M := by
  subst hn
  exact fun H locs ls hP hD hS hl => lv_iand C.1 C.2.1 hd (kk H locs ls hP hD hS hl)
theorem zz_ior (n : Nat) (C : zz_C p R s m args meth c D cI own cc nL ret kc ks) {x y : Int32} (hd : decode cc pc = .ok (.ior, 1)) (hn : pc + 1 = n)  (kk : zz_V p l e R s m args below meth c D S cI ad A nL kc ks Q n L (.int (x ||| y) :: st) M) : zz_V p l e R s m args below meth c D S cI ad A nL kc ks Q pc L (.int y :: .int x :: st) M := by
  subst hn
  exact fun H locs ls hP hD hS hl => lv_ior C.1 C.2.1 hd (kk H locs ls hP hD hS hl)
theorem zz_ixor (n : Nat) (C : zz_C p R s m args meth c D cI own cc nL ret kc ks) {x y : Int32} (hd : decode cc pc = .ok (.ixor, 1)) (hn : pc + 1 = n)  (kk : zz_V p l e R s m args below meth c D S cI ad A nL kc ks Q n L (.int (x ^^^ y) :: st) M) : zz_V p l e R s m args below meth c D S cI ad A nL kc ks Q pc L (.int y :: .int x :: st) M := by
  subst hn
  exact fun H locs ls hP hD hS hl => lv_ixor C.1 C.2.1 hd (kk H locs ls hP hD hS hl)
theorem zz_ishl (n : Nat) (C : zz_C p R s m args meth c D cI own cc nL ret kc ks) {x y : Int32} (hd : decode cc pc = .ok (.ishl, 1)) (hn : pc + 1 = n)  (kk : zz_V p l e R s m args below meth c D S cI ad A nL kc ks Q n L (.int (x <<< (y &&& 31)) :: st) M) : zz_V p l e R s m args below meth c D S cI ad A nL kc ks Q pc L (.int y :: .int x :: st) M := by
  subst hn
  exact fun H locs ls hP hD hS hl => lv_ishl C.1 C.2.1 hd (kk H locs ls hP hD hS hl)
theorem zz_ishr (n : Nat) (C : zz_C p R s m args meth c D cI own cc nL ret kc ks) {x y : Int32} (hd : decode cc pc = .ok (.ishr, 1)) (hn : pc + 1 = n)  (kk : zz_V p l e R s m args below meth c D S cI ad A nL kc ks Q n L (.int (x >>> (y &&& 31)) :: st) M) : zz_V p l e R s m args below meth c D S cI ad A nL kc ks Q pc L (.int y :: .int x :: st) M := by
  subst hn
  exact fun H locs ls hP hD hS hl => lv_ishr C.1 C.2.1 hd (kk H locs ls hP hD hS hl)
theorem zz_iushr (n : Nat) (C : zz_C p R s m args meth c D cI own cc nL ret kc ks) {x y : Int32} (hd : decode cc pc = .ok (.iushr, 1)) (hn : pc + 1 = n)  (kk : zz_V p l e R s m args below meth c D S cI ad A nL kc ks Q n L (.int ((x.toUInt32 >>> (y.toUInt32 &&& Int32.toUInt32 31)).toInt32) :: st) M) : zz_V p l e R s m args below meth c D S cI ad A nL kc ks Q pc L (.int y :: .int x :: st) M := by
  subst hn
  exact fun H locs ls hP hD hS hl => lv_iushr C.1 C.2.1 hd rfl (kk H locs ls hP hD hS hl)
theorem zz_dup (n : Nat) (C : zz_C p R s m args meth c D cI own cc nL ret kc ks) {v : Value} (hd : decode cc pc = .ok (.dup, 1)) (hn : pc + 1 = n) (hv : v.category = 1) (kk : zz_V p l e R s m args below meth c D S cI ad A nL kc ks Q n L (v :: v :: st) M) : zz_V p l e R s m args below meth c D S cI ad A nL kc ks Q pc L (v :: st) M := by
  subst hn
  exact fun H locs ls hP hD hS hl => lv_dup C.1 C.2.1 hd hv (kk H locs ls hP hD hS hl)
theorem zz_dup2 (n : Nat) (C : zz_C p R s m args meth c D cI own cc nL ret kc ks) {v w : Value} (hd : decode cc pc = .ok (.dup2, 1)) (hn : pc + 1 = n) (hv : v.category = 1) (hw : w.category = 1) (kk : zz_V p l e R s m args below meth c D S cI ad A nL kc ks Q n L (v :: w :: v :: w :: st) M) : zz_V p l e R s m args below meth c D S cI ad A nL kc ks Q pc L (v :: w :: st) M := by
  subst hn
  exact fun H locs ls hP hD hS hl => lv_dup2_11 C.1 C.2.1 hd hv hw (kk H locs ls hP hD hS hl)
theorem zz_pop (n : Nat) (C : zz_C p R s m args meth c D cI own cc nL ret kc ks) {v : Value} (hd : decode cc pc = .ok (.pop, 1)) (hn : pc + 1 = n) (hv : v.category = 1) (kk : zz_V p l e R s m args below meth c D S cI ad A nL kc ks Q n L (st) M) : zz_V p l e R s m args below meth c D S cI ad A nL kc ks Q pc L (v :: st) M := by
  subst hn
  exact fun H locs ls hP hD hS hl => lv_pop C.1 C.2.1 hd hv (kk H locs ls hP hD hS hl)
theorem zz_istore_n (n : Nat) (C : zz_C p R s m args meth c D cI own cc nL ret kc ks) {k : Fin 4} {v : Int32} (hd : decode cc pc = .ok (.istore_n k, 1)) (hn : pc + 1 = n) (hi : (k : Nat) < nL) (hL : ((k : Nat), Value.int v) :: L.filter (fun q : Nat × Value => !(q.1 == (k : Nat)) && !(q.1 + 1 == (k : Nat) && q.2.category == 2)) = L') (kk : zz_V p l e R s m args below meth c D S cI ad A nL kc ks Q n L' st M) : zz_V p l e R s m args below meth c D S cI ad A nL kc ks Q pc L (.int v :: st) M := by
  subst hn
  exact fun H locs ls hP hD hS hl => lv_istore_n C.1 C.2.1 hd rfl hl hi hL (fun ls' hl' => kk H locs ls' hP hD hS hl')
theorem zz_istore (n : Nat) (C : zz_C p R s m args meth c D cI own cc nL ret kc ks) {i : Nat} {v : Int32} (hd : decode cc pc = .ok (.istore i, 2)) (hn : pc + 2 = n) (hi : i < nL) (hL : (i, Value.int v) :: L.filter (fun q : Nat × Value => !(q.1 == i) && !(q.1 + 1 == i && q.2.category == 2)) = L') (kk : zz_V p l e R s m args below meth c D S cI ad A nL kc ks Q n L' st M) : zz_V p l e R s m args below meth c D S cI ad A nL kc ks Q pc L (.int v :: st) M := by
  subst hn
  exact fun H locs ls hP hD hS hl => lv_istore C.1 C.2.1 hd hl hi hL (fun ls' hl' => kk H locs ls' hP hD hS hl')
theorem zz_iinc (n : Nat) (C : zz_C p R s m args meth c D cI own cc nL ret kc ks) {i : Nat} {w : Int} {v z : Int32} (hd : decode cc pc = .ok (.iinc i w, 3)) (hn : pc + 3 = n) (hz : Int32.ofInt w = z) (q : Nat) (hq : L[q]? = some (i, .int v)) (hi : i < nL) (hL : (i, Value.int (v + z)) :: L.filter (fun q : Nat × Value => !(q.1 == i) && !(q.1 + 1 == i && q.2.category == 2)) = L') (kk : zz_V p l e R s m args below meth c D S cI ad A nL kc ks Q n L' st M) : zz_V p l e R s m args below meth c D S cI ad A nL kc ks Q pc L st M := by
  subst hn; subst hz
  exact fun H locs ls hP hD hS hl => lv_iinc C.1 C.2.1 hd hl hq rfl hi hL (fun ls' hl' => kk H locs ls' hP hD hS hl')
theorem zz_goto (n : Nat) (C : zz_C p R s m args meth c D cI own cc nL ret kc ks) {off : Int} (hd : decode cc pc = .ok (.goto off, 3)) (hn : (pc : Int) + off = (n : Int)) (kk : zz_V p l e R s m args below meth c D S cI ad A nL kc ks Q n L st M) : zz_V p l e R s m args below meth c D S cI ad A nL kc ks Q pc L st M :=
  fun H locs ls hP hD hS hl => lv_goto C.1 C.2.1 hd hn (kk H locs ls hP hD hS hl)
theorem zz_if_eq {α : Type} {a b : Option α} {r : α} (n t : Nat) (C : zz_C p R s m args meth c D cI own cc nL ret kc ks) {x : Int32} {off : Int} (hd : decode cc pc = .ok (.ifCond .eq off, 3)) (hn : pc + 3 = n) (ht : (pc : Int) + off = (t : Int)) (hf : (if x = 0 then a else b) = some r) (kt : x = 0 → a = some r → zz_V p l e R s m args below meth c D S cI ad A nL kc ks Q t L st M) (kf : ¬ x = 0 → b = some r → zz_V p l e R s m args below meth c D S cI ad A nL kc ks Q n L st M) : zz_V p l e R s m args below meth c D S cI ad A nL kc ks Q pc L (.int x :: st) M := by
  subst hn
  exact fun H locs ls hP hD hS hl => lv_if_eq C.1 C.2.1 hd ht (fun h => kt h (by rwa [if_pos h] at hf) H locs ls hP hD hS hl) (fun h => kf h (by rwa [if_neg h] at hf) H locs ls hP hD hS hl)
theorem zz_icmp_eq {α : Type} {a b : Option α} {r : α} (n t : Nat) (C : zz_C p R s m args meth c D cI own cc nL ret kc ks) {x y : Int32} {off : Int} (hd : decode cc pc = .ok (.if_icmp .eq off, 3)) (hn : pc + 3 = n) (ht : (pc : Int) + off = (t : Int)) (hf : (if x = y then a else b) = some r) (kt : x = y → a = some r → zz_V p l e R s m args below meth c D S cI ad A nL kc ks Q t L st M) (kf : ¬ x = y → b = some r → zz_V p l e R s m args below meth c D S cI ad A nL kc ks Q n L st M) : zz_V p l e R s m args below meth c D S cI ad A nL kc ks Q pc L (.int y :: .int x :: st) M := by
  subst hn
  exact fun H locs ls hP hD hS hl => lv_icmp_eq C.1 C.2.1 hd ht (fun h => kt h (by rwa [if_pos h] at hf) H locs ls hP hD hS hl) (fun h => kf h (by rwa [if_neg h] at hf) H locs ls hP hD hS hl)
theorem zz_if_ne {α : Type} {a b : Option α} {r : α} (n t : Nat) (C : zz_C p R s m args meth c D cI own cc nL ret kc ks) {x : Int32} {off : Int} (hd : decode cc pc = .ok (.ifCond .ne off, 3)) (hn : pc + 3 = n) (ht : (pc : Int) + off = (t : Int)) (hf : (if x = 0 then a else b) = some r) (kt : ¬ x = 0 → b = some r → zz_V p l e R s m args below meth c D S cI ad A nL kc ks Q t L st M) (kf : x = 0 → a = some r → zz_V p l e R s m args below meth c D S cI ad A nL kc ks Q n L st M) : zz_V p l e R s m args below meth c D S cI ad A nL kc ks Q pc L (.int x :: st) M := by
  subst hn
  exact fun H locs ls hP hD hS hl => lv_if_ne C.1 C.2.1 hd ht (fun h => kt h (by rwa [if_neg h] at hf) H locs ls hP hD hS hl) (fun h => kf h (by rwa [if_pos h] at hf) H locs ls hP hD hS hl)
theorem zz_icmp_ne {α : Type} {a b : Option α} {r : α} (n t : Nat) (C : zz_C p R s m args meth c D cI own cc nL ret kc ks) {x y : Int32} {off : Int} (hd : decode cc pc = .ok (.if_icmp .ne off, 3)) (hn : pc + 3 = n) (ht : (pc : Int) + off = (t : Int)) (hf : (if x = y then a else b) = some r) (kt : ¬ x = y → b = some r → zz_V p l e R s m args below meth c D S cI ad A nL kc ks Q t L st M) (kf : x = y → a = some r → zz_V p l e R s m args below meth c D S cI ad A nL kc ks Q n L st M) : zz_V p l e R s m args below meth c D S cI ad A nL kc ks Q pc L (.int y :: .int x :: st) M := by
  subst hn
  exact fun H locs ls hP hD hS hl => lv_icmp_ne C.1 C.2.1 hd ht (fun h => kt h (by rwa [if_neg h] at hf) H locs ls hP hD hS hl) (fun h => kf h (by rwa [if_pos h] at hf) H locs ls hP hD hS hl)
theorem zz_if_lt {α : Type} {a b : Option α} {r : α} (n t : Nat) (C : zz_C p R s m args meth c D cI own cc nL ret kc ks) {x : Int32} {off : Int} (hd : decode cc pc = .ok (.ifCond .lt off, 3)) (hn : pc + 3 = n) (ht : (pc : Int) + off = (t : Int)) (hf : (if x < 0 then a else b) = some r) (kt : x < 0 → a = some r → zz_V p l e R s m args below meth c D S cI ad A nL kc ks Q t L st M) (kf : ¬ x < 0 → b = some r → zz_V p l e R s m args below meth c D S cI ad A nL kc ks Q n L st M) : zz_V p l e R s m args below meth c D S cI ad A nL kc ks Q pc L (.int x :: st) M := by
  subst hn
  exact fun H locs ls hP hD hS hl => lv_if_lt C.1 C.2.1 hd ht (fun h => kt h (by rwa [if_pos h] at hf) H locs ls hP hD hS hl) (fun h => kf h (by rwa [if_neg h] at hf) H locs ls hP hD hS hl)
theorem zz_icmp_lt {α : Type} {a b : Option α} {r : α} (n t : Nat) (C : zz_C p R s m args meth c D cI own cc nL ret kc ks) {x y : Int32} {off : Int} (hd : decode cc pc = .ok (.if_icmp .lt off, 3)) (hn : pc + 3 = n) (ht : (pc : Int) + off = (t : Int)) (hf : (if x < y then a else b) = some r) (kt : x < y → a = some r → zz_V p l e R s m args below meth c D S cI ad A nL kc ks Q t L st M) (kf : ¬ x < y → b = some r → zz_V p l e R s m args below meth c D S cI ad A nL kc ks Q n L st M) : zz_V p l e R s m args below meth c D S cI ad A nL kc ks Q pc L (.int y :: .int x :: st) M := by
  subst hn
  exact fun H locs ls hP hD hS hl => lv_icmp_lt C.1 C.2.1 hd ht (fun h => kt h (by rwa [if_pos h] at hf) H locs ls hP hD hS hl) (fun h => kf h (by rwa [if_neg h] at hf) H locs ls hP hD hS hl)
theorem zz_if_ge {α : Type} {a b : Option α} {r : α} (n t : Nat) (C : zz_C p R s m args meth c D cI own cc nL ret kc ks) {x : Int32} {off : Int} (hd : decode cc pc = .ok (.ifCond .ge off, 3)) (hn : pc + 3 = n) (ht : (pc : Int) + off = (t : Int)) (hf : (if 0 ≤ x then a else b) = some r) (kt : 0 ≤ x → a = some r → zz_V p l e R s m args below meth c D S cI ad A nL kc ks Q t L st M) (kf : ¬ 0 ≤ x → b = some r → zz_V p l e R s m args below meth c D S cI ad A nL kc ks Q n L st M) : zz_V p l e R s m args below meth c D S cI ad A nL kc ks Q pc L (.int x :: st) M := by
  subst hn
  exact fun H locs ls hP hD hS hl => lv_if_ge C.1 C.2.1 hd ht (fun h => kt h (by rwa [if_pos h] at hf) H locs ls hP hD hS hl) (fun h => kf h (by rwa [if_neg h] at hf) H locs ls hP hD hS hl)
theorem zz_icmp_ge {α : Type} {a b : Option α} {r : α} (n t : Nat) (C : zz_C p R s m args meth c D cI own cc nL ret kc ks) {x y : Int32} {off : Int} (hd : decode cc pc = .ok (.if_icmp .ge off, 3)) (hn : pc + 3 = n) (ht : (pc : Int) + off = (t : Int)) (hf : (if y ≤ x then a else b) = some r) (kt : y ≤ x → a = some r → zz_V p l e R s m args below meth c D S cI ad A nL kc ks Q t L st M) (kf : ¬ y ≤ x → b = some r → zz_V p l e R s m args below meth c D S cI ad A nL kc ks Q n L st M) : zz_V p l e R s m args below meth c D S cI ad A nL kc ks Q pc L (.int y :: .int x :: st) M := by
  subst hn
  exact fun H locs ls hP hD hS hl => lv_icmp_ge C.1 C.2.1 hd ht (fun h => kt h (by rwa [if_pos h] at hf) H locs ls hP hD hS hl) (fun h => kf h (by rwa [if_neg h] at hf) H locs ls hP hD hS hl)
theorem zz_if_gt {α : Type} {a b : Option α} {r : α} (n t : Nat) (C : zz_C p R s m args meth c D cI own cc nL ret kc ks) {x : Int32} {off : Int} (hd : decode cc pc = .ok (.ifCond .gt off, 3)) (hn : pc + 3 = n) (ht : (pc : Int) + off = (t : Int)) (hf : (if 0 < x then a else b) = some r) (kt : 0 < x → a = some r → zz_V p l e R s m args below meth c D S cI ad A nL kc ks Q t L st M) (kf : ¬ 0 < x → b = some r → zz_V p l e R s m args below meth c D S cI ad A nL kc ks Q n L st M) : zz_V p l e R s m args below meth c D S cI ad A nL kc ks Q pc L (.int x :: st) M := by
  subst hn
  exact fun H locs ls hP hD hS hl => lv_if_gt C.1 C.2.1 hd ht (fun h => kt h (by rwa [if_pos h] at hf) H locs ls hP hD hS hl) (fun h => kf h (by rwa [if_neg h] at hf) H locs ls hP hD hS hl)
theorem zz_icmp_gt {α : Type} {a b : Option α} {r : α} (n t : Nat) (C : zz_C p R s m args meth c D cI own cc nL ret kc ks) {x y : Int32} {off : Int} (hd : decode cc pc = .ok (.if_icmp .gt off, 3)) (hn : pc + 3 = n) (ht : (pc : Int) + off = (t : Int)) (hf : (if y < x then a else b) = some r) (kt : y < x → a = some r → zz_V p l e R s m args below meth c D S cI ad A nL kc ks Q t L st M) (kf : ¬ y < x → b = some r → zz_V p l e R s m args below meth c D S cI ad A nL kc ks Q n L st M) : zz_V p l e R s m args below meth c D S cI ad A nL kc ks Q pc L (.int y :: .int x :: st) M := by
  subst hn
  exact fun H locs ls hP hD hS hl => lv_icmp_gt C.1 C.2.1 hd ht (fun h => kt h (by rwa [if_pos h] at hf) H locs ls hP hD hS hl) (fun h => kf h (by rwa [if_neg h] at hf) H locs ls hP hD hS hl)
theorem zz_if_le {α : Type} {a b : Option α} {r : α} (n t : Nat) (C : zz_C p R s m args meth c D cI own cc nL ret kc ks) {x : Int32} {off : Int} (hd : decode cc pc = .ok (.ifCond .le off, 3)) (hn : pc + 3 = n) (ht : (pc : Int) + off = (t : Int)) (hf : (if x ≤ 0 then a else b) = some r) (kt : x ≤ 0 → a = some r → zz_V p l e R s m args below meth c D S cI ad A nL kc ks Q t L st M) (kf : ¬ x ≤ 0 → b = some r → zz_V p l e R s m args below meth c D S cI ad A nL kc ks Q n L st M) : zz_V p l e R s m args below meth c D S cI ad A nL kc ks Q pc L (.int x :: st) M := by
  subst hn
  exact fun H locs ls hP hD hS hl => lv_if_le C.1 C.2.1 hd ht (fun h => kt h (by rwa [if_pos h] at hf) H locs ls hP hD hS hl) (fun h => kf h (by rwa [if_neg h] at hf) H locs ls hP hD hS hl)
theorem zz_icmp_le {α : Type} {a b : Option α} {r : α} (n t : Nat) (C : zz_C p R s m args meth c D cI own cc nL ret kc ks) {x y : Int32} {off : Int} (hd : decode cc pc = .ok (.if_icmp .le off, 3)) (hn : pc + 3 = n) (ht : (pc : Int) + off = (t : Int)) (hf : (if x ≤ y then a else b) = some r) (kt : x ≤ y → a = some r → zz_V p l e R s m args below meth c D S cI ad A nL kc ks Q t L st M) (kf : ¬ x ≤ y → b = some r → zz_V p l e R s m args below meth c D S cI ad A nL kc ks Q n L st M) : zz_V p l e R s m args below meth c D S cI ad A nL kc ks Q pc L (.int y :: .int x :: st) M := by
  subst hn
  exact fun H locs ls hP hD hS hl => lv_icmp_le C.1 C.2.1 hd ht (fun h => kt h (by rwa [if_pos h] at hf) H locs ls hP hD hS hl) (fun h => kf h (by rwa [if_neg h] at hf) H locs ls hP hD hS hl)
theorem zz_if_eqT (t : Nat) (C : zz_C p R s m args meth c D cI own cc nL ret kc ks) {x : Int32} {off : Int} (hd : decode cc pc = .ok (.ifCond .eq off, 3)) (ht : (pc : Int) + off = (t : Int)) (hp : x = 0) (kt : zz_V p l e R s m args below meth c D S cI ad A nL kc ks Q t L st M) : zz_V p l e R s m args below meth c D S cI ad A nL kc ks Q pc L (.int x :: st) M :=
  fun H locs ls hP hD hS hl => lv_if_eq C.1 C.2.1 hd ht (fun _ => kt H locs ls hP hD hS hl) (fun h => absurd hp (by simp [h]))
theorem zz_if_eqF (n t : Nat) (C : zz_C p R s m args meth c D cI own cc nL ret kc ks) {x : Int32} {off : Int} (hd : decode cc pc = .ok (.ifCond .eq off, 3)) (hn : pc + 3 = n) (ht : (pc : Int) + off = (t : Int)) (hp : ¬ (x = 0)) (kf : zz_V p l e R s m args below meth c D S cI ad A nL kc ks Q n L st M) : zz_V p l e R s m args below meth c D S cI ad A nL kc ks Q pc L (.int x :: st) M := by
  subst hn
  exact fun H locs ls hP hD hS hl => lv_if_eq C.1 C.2.1 hd ht (fun h => absurd h hp) (fun _ => kf H locs ls hP hD hS hl)
theorem zz_icmp_eqT (t : Nat) (C : zz_C p R s m args meth c D cI own cc nL ret kc ks) {x y : Int32} {off : Int} (hd : decode cc pc = .ok (.if_icmp .eq off, 3)) (ht : (pc : Int) + off = (t : Int)) (hp : x = y) (kt : zz_V p l e R s m args below meth c D S cI ad A nL kc ks Q t L st M) : zz_V p l e R s m args below meth c D S cI ad A nL kc ks Q pc L (.int y :: .int x :: st) M :=
  fun H locs ls hP hD hS hl => lv_icmp_eq C.1 C.2.1 hd ht (fun _ => kt H locs ls hP hD hS hl) (fun h => absurd hp (by simp [h]))
theorem zz_icmp_eqF (n t : Nat) (C : zz_C p R s m args meth c D cI own cc nL ret kc ks) {x y : Int32} {off : Int} (hd : decode cc pc = .ok (.if_icmp .eq off, 3)) (hn : pc + 3 = n) (ht : (pc : Int) + off = (t : Int)) (hp : ¬ (x = y)) (kf : zz_V p l e R s m args below meth c D S cI ad A nL kc ks Q n L st M) : zz_V p l e R s m args below meth c D S cI ad A nL kc ks Q pc L (.int y :: .int x :: st) M := by
  subst hn
  exact fun H locs ls hP hD hS hl => lv_icmp_eq C.1 C.2.1 hd ht (fun h => absurd h hp) (fun _ => kf H locs ls hP hD hS hl)
theorem zz_if_neT (t : Nat) (C : zz_C p R s m args meth c D cI own cc nL ret kc ks) {x : Int32} {off : Int} (hd : decode cc pc = .ok (.ifCond .ne off, 3)) (ht : (pc : Int) + off = (t : Int)) (hp : ¬ x = 0) (kt : zz_V p l e R s m args below meth c D S cI ad A nL kc ks Q t L st M) : zz_V p l e R s m args below meth c D S cI ad A nL kc ks Q pc L (.int x :: st) M :=
  fun H locs ls hP hD hS hl => lv_if_ne C.1 C.2.1 hd ht (fun _ => kt H locs ls hP hD hS hl) (fun h => absurd hp (by simp [h]))
theorem zz_if_neF (n t : Nat) (C : zz_C p R s m args meth c D cI own cc nL ret kc ks) {x : Int32} {off : Int} (hd : decode cc pc = .ok (.ifCond .ne off, 3)) (hn : pc + 3 = n) (ht : (pc : Int) + off = (t : Int)) (hp : ¬ (¬ x = 0)) (kf : zz_V p l e R s m args below meth c D S cI ad A nL kc ks Q n L st M) : zz_V p l e R s m args below meth c D S cI ad A nL kc ks Q pc L (.int x :: st) M := by
  subst hn
  exact fun H locs ls hP hD hS hl => lv_if_ne C.1 C.2.1 hd ht (fun h => absurd h hp) (fun _ => kf H locs ls hP hD hS hl)
theorem zz_icmp_neT (t : Nat) (C : zz_C p R s m args meth c D cI own cc nL ret kc ks) {x y : Int32} {off : Int} (hd : decode cc pc = .ok (.if_icmp .ne off, 3)) (ht : (pc : Int) + off = (t : Int)) (hp : ¬ x = y) (kt : zz_V p l e R s m args below meth c D S cI ad A nL kc ks Q t L st M) : zz_V p l e R s m args below meth c D S cI ad A nL kc ks Q pc L (.int y :: .int x :: st) M :=
  fun H locs ls hP hD hS hl => lv_icmp_ne C.1 C.2.1 hd ht (fun _ => kt H locs ls hP hD hS hl) (fun h => absurd hp (by simp [h]))
theorem zz_icmp_neF (n t : Nat) (C : zz_C p R s m args meth c D cI own cc nL ret kc ks) {x y : Int32} {off : Int} (hd : decode cc pc = .ok (.if_icmp .ne off, 3)) (hn : pc + 3 = n) (ht : (pc : Int) + off = (t : Int)) (hp : ¬ (¬ x = y)) (kf : zz_V p l e R s m args below meth c D S cI ad A nL kc ks Q n L st M) : zz_V p l e R s m args below meth c D S cI ad A nL kc ks Q pc L (.int y :: .int x :: st) M := by
  subst hn
  exact fun H locs ls hP hD hS hl => lv_icmp_ne C.1 C.2.1 hd ht (fun h => absurd h hp) (fun _ => kf H locs ls hP hD hS hl)
theorem zz_if_ltT (t : Nat) (C : zz_C p R s m args meth c D cI own cc nL ret kc ks) {x : Int32} {off : Int} (hd : decode cc pc = .ok (.ifCond .lt off, 3)) (ht : (pc : Int) + off = (t : Int)) (hp : x < 0) (kt : zz_V p l e R s m args below meth c D S cI ad A nL kc ks Q t L st M) : zz_V p l e R s m args below meth c D S cI ad A nL kc ks Q pc L (.int x :: st) M :=
  fun H locs ls hP hD hS hl => lv_if_lt C.1 C.2.1 hd ht (fun _ => kt H locs ls hP hD hS hl) (fun h => absurd hp (by simp [h]))
theorem zz_if_ltF (n t : Nat) (C : zz_C p R s m args meth c D cI own cc nL ret kc ks) {x : Int32} {off : Int} (hd : decode cc pc = .ok (.ifCond .lt off, 3)) (hn : pc + 3 = n) (ht : (pc : Int) + off = (t : Int)) (hp : ¬ (x < 0)) (kf : zz_V p l e R s m args below meth c D S cI ad A nL kc ks Q n L st M) : zz_V p l e R s m args below meth c D S cI ad A nL kc ks Q pc L (.int x :: st) M := by
  subst hn
  exact fun H locs ls hP hD hS hl => lv_if_lt C.1 C.2.1 hd ht (fun h => absurd h hp) (fun _ => kf H locs ls hP hD hS hl)
theorem zz_icmp_ltT (t : Nat) (C : zz_C p R s m args meth c D cI own cc nL ret kc ks) {x y : Int32} {off : Int} (hd : decode cc pc = .ok (.if_icmp .lt off, 3)) (ht : (pc : Int) + off = (t : Int)) (hp : x < y) (kt : zz_V p l e R s m args below meth c D S cI ad A nL kc ks Q t L st M) : zz_V p l e R s m args below meth c D S cI ad A nL kc ks Q pc L (.int y :: .int x :: st) M :=
  fun H locs ls hP hD hS hl => lv_icmp_lt C.1 C.2.1 hd ht (fun _ => kt H locs ls hP hD hS hl) (fun h => absurd hp (by simp [h]))
theorem zz_icmp_ltF (n t : Nat) (C : zz_C p R s m args meth c D cI own cc nL ret kc ks) {x y : Int32} {off : Int} (hd : decode cc pc = .ok (.if_icmp .lt off, 3)) (hn : pc + 3 = n) (ht : (pc : Int) + off = (t : Int)) (hp : ¬ (x < y)) (kf : zz_V p l e R s m args below meth c D S cI ad A nL kc ks Q n L st M) : zz_V p l e R s m args below meth c D S cI ad A nL kc ks Q pc L (.int y :: .int x :: st) M := by
  subst hn
  exact fun H locs ls hP hD hS hl => lv_icmp_lt C.1 C.2.1 hd ht (fun h => absurd h hp) (fun _ => kf H locs ls hP hD hS hl)
theorem zz_if_geT (t : Nat) (C : zz_C p R s m args meth c D cI own cc nL ret kc ks) {x : Int32} {off : Int} (hd : decode cc pc = .ok (.ifCond .ge off, 3)) (ht : (pc : Int) + off = (t : Int)) (hp : 0 ≤ x) (kt : zz_V p l e R s m args below meth c D S cI ad A nL kc ks Q t L st M) : zz_V p l e R s m args below meth c D S cI ad A nL kc ks Q pc L (.int x :: st) M :=
  fun H locs ls hP hD hS hl => lv_if_ge C.1 C.2.1 hd ht (fun _ => kt H locs ls hP hD hS hl) (fun h => absurd hp (by simp [h]))
theorem zz_if_geF (n t : Nat) (C : zz_C p R s m args meth c D cI own cc nL ret kc ks) {x : Int32} {off : Int} (hd : decode cc pc = .ok (.ifCond .ge off, 3)) (hn : pc + 3 = n) (ht : (pc : Int) + off = (t : Int)) (hp : ¬ (0 ≤ x)) (kf : zz_V p l e R s m args below meth c D S cI ad A nL kc ks Q n L st M) : zz_V p l e R s m args below meth c D S cI ad A nL kc ks Q pc L (.int x :: st) M := by
  subst hn
  exact fun H locs ls hP hD hS hl => lv_if_ge C.1 C.2.1 hd ht (fun h => absurd h hp) (fun _ => kf H locs ls hP hD hS hl)
theorem zz_icmp_geT (t : Nat) (C : zz_C p R s m args meth c D cI own cc nL ret kc ks) {x y : Int32} {off : Int} (hd : decode cc pc = .ok (.if_icmp .ge off, 3)) (ht : (pc : Int) + off = (t : Int)) (hp : y ≤ x) (kt : zz_V p l e R s m args below meth c D S cI ad A nL kc ks Q t L st M) : zz_V p l e R s m args below meth c D S cI ad A nL kc ks Q pc L (.int y :: .int x :: st) M :=
  fun H locs ls hP hD hS hl => lv_icmp_ge C.1 C.2.1 hd ht (fun _ => kt H locs ls hP hD hS hl) (fun h => absurd hp (by simp [h]))
theorem zz_icmp_geF (n t : Nat) (C : zz_C p R s m args meth c D cI own cc nL ret kc ks) {x y : Int32} {off : Int} (hd : decode cc pc = .ok (.if_icmp .ge off, 3)) (hn : pc + 3 = n) (ht : (pc : Int) + off = (t : Int)) (hp : ¬ (y ≤ x)) (kf : zz_V p l e R s m args below meth c D S cI ad A nL kc ks Q n L st M) : zz_V p l e R s m args below meth c D S cI ad A nL kc ks Q pc L (.int y :: .int x :: st) M := by
  subst hn
  exact fun H locs ls hP hD hS hl => lv_icmp_ge C.1 C.2.1 hd ht (fun h => absurd h hp) (fun _ => kf H locs ls hP hD hS hl)
theorem zz_if_gtT (t : Nat) (C : zz_C p R s m args meth c D cI own cc nL ret kc ks) {x : Int32} {off : Int} (hd : decode cc pc = .ok (.ifCond .gt off, 3)) (ht : (pc : Int) + off = (t : Int)) (hp : 0 < x) (kt : zz_V p l e R s m args below meth c D S cI ad A nL kc ks Q t L st M) : zz_V p l e R s m args below meth c D S cI ad A nL kc ks Q pc L (.int x :: st) M :=
  fun H locs ls hP hD hS hl => lv_if_gt C.1 C.2.1 hd ht (fun _ => kt H locs ls hP hD hS hl) (fun h => absurd hp (by simp [h]))
theorem zz_if_gtF (n t : Nat) (C : zz_C p R s m args meth c D cI own cc nL ret kc ks) {x : Int32} {off : Int} (hd : decode cc pc = .ok (.ifCond .gt off, 3)) (hn : pc + 3 = n) (ht : (pc : Int) + off = (t : Int)) (hp : ¬ (0 < x)) (kf : zz_V p l e R s m args below meth c D S cI ad A nL kc ks Q n L st M) : zz_V p l e R s m args below meth c D S cI ad A nL kc ks Q pc L (.int x :: st) M := by
  subst hn
  exact fun H locs ls hP hD hS hl => lv_if_gt C.1 C.2.1 hd ht (fun h => absurd h hp) (fun _ => kf H locs ls hP hD hS hl)
theorem zz_icmp_gtT (t : Nat) (C : zz_C p R s m args meth c D cI own cc nL ret kc ks) {x y : Int32} {off : Int} (hd : decode cc pc = .ok (.if_icmp .gt off, 3)) (ht : (pc : Int) + off = (t : Int)) (hp : y < x) (kt : zz_V p l e R s m args below meth c D S cI ad A nL kc ks Q t L st M) : zz_V p l e R s m args below meth c D S cI ad A nL kc ks Q pc L (.int y :: .int x :: st) M :=
  fun H locs ls hP hD hS hl => lv_icmp_gt C.1 C.2.1 hd ht (fun _ => kt H locs ls hP hD hS hl) (fun h => absurd hp (by simp [h]))
theorem zz_icmp_gtF (n t : Nat) (C : zz_C p R s m args meth c D cI own cc nL ret kc ks) {x y : Int32} {off : Int} (hd : decode cc pc = .ok (.if_icmp .gt off, 3)) (hn : pc + 3 = n) (ht : (pc : Int) + off = (t : Int)) (hp : ¬ (y < x)) (kf : zz_V p l e R s m args below meth c D S cI ad A nL kc ks Q n L st M) : zz_V p l e R s m args below meth c D S cI ad A nL kc ks Q pc L (.int y :: .int x :: st) M := by
  subst hn
  exact fun H locs ls hP hD hS hl => lv_icmp_gt C.1 C.2.1 hd ht (fun h => absurd h hp) (fun _ => kf H locs ls hP hD hS hl)
theorem zz_if_leT (t : Nat) (C : zz_C p R s m args meth c D cI own cc nL ret kc ks) {x : Int32} {off : Int} (hd : decode cc pc = .ok (.ifCond .le off, 3)) (ht : (pc : Int) + off = (t : Int)) (hp : x ≤ 0) (kt : zz_V p l e R s m args below meth c D S cI ad A nL kc ks Q t L st M) : zz_V p l e R s m args below meth c D S cI ad A nL kc ks Q pc L (.int x :: st) M :=
  fun H locs ls hP hD hS hl => lv_if_le C.1 C.2.1 hd ht (fun _ => kt H locs ls hP hD hS hl) (fun h => absurd hp (by simp [h]))
theorem zz_if_leF (n t : Nat) (C : zz_C p R s m args meth c D cI own cc nL ret kc ks) {x : Int32} {off : Int} (hd : decode cc pc = .ok (.ifCond .le off, 3)) (hn : pc + 3 = n) (ht : (pc : Int) + off = (t : Int)) (hp : ¬ (x ≤ 0)) (kf : zz_V p l e R s m args below meth c D S cI ad A nL kc ks Q n L st M) : zz_V p l e R s m args below meth c D S cI ad A nL kc ks Q pc L (.int x :: st) M := by
  subst hn
  exact fun H locs ls hP hD hS hl => lv_if_le C.1 C.2.1 hd ht (fun h => absurd h hp) (fun _ => kf H locs ls hP hD hS hl)
theorem zz_icmp_leT (t : Nat) (C : zz_C p R s m args meth c D cI own cc nL ret kc ks) {x y : Int32} {off : Int} (hd : decode cc pc = .ok (.if_icmp .le off, 3)) (ht : (pc : Int) + off = (t : Int)) (hp : x ≤ y) (kt : zz_V p l e R s m args below meth c D S cI ad A nL kc ks Q t L st M) : zz_V p l e R s m args below meth c D S cI ad A nL kc ks Q pc L (.int y :: .int x :: st) M :=
  fun H locs ls hP hD hS hl => lv_icmp_le C.1 C.2.1 hd ht (fun _ => kt H locs ls hP hD hS hl) (fun h => absurd hp (by simp [h]))
theorem zz_icmp_leF (n t : Nat) (C : zz_C p R s m args meth c D cI own cc nL ret kc ks) {x y : Int32} {off : Int} (hd : decode cc pc = .ok (.if_icmp .le off, 3)) (hn : pc + 3 = n) (ht : (pc : Int) + off = (t : Int)) (hp : ¬ (x ≤ y)) (kf : zz_V p l e R s m args below meth c D S cI ad A nL kc ks Q n L st M) : zz_V p l e R s m args below meth c D S cI ad A nL kc ks Q pc L (.int y :: .int x :: st) M := by
  subst hn
  exact fun H locs ls hP hD hS hl => lv_icmp_le C.1 C.2.1 hd ht (fun h => absurd h hp) (fun _ => kf H locs ls hP hD hS hl)
theorem zz_lookup (t : Nat) (C : zz_C p R s m args meth c D cI own cc nL ret kc ks) {dflt : Int} {ps : Array (Int × Int)} {len : Nat} {x : Int32} {off : Int} (hd : decode cc pc = .ok (.lookupswitch dflt ps, len)) (hp : (ps.toList.zip (ps.toList.drop 1)).all (fun (a, next) => a.1 < next.1) = true) (ho : Op.lookupswitch.offset ps.toList dflt x.toInt = off) (ht : (pc : Int) + off = (t : Int)) (kk : zz_V p l e R s m args below meth c D S cI ad A nL kc ks Q t L st M) : zz_V p l e R s m args below meth c D S cI ad A nL kc ks Q pc L (.int x :: st) M :=
  fun H locs ls hP hD hS hl => lv_lookup C.1 C.2.1 hd hp ho ht (kk H locs ls hP hD hS hl)
theorem zz_tabOut (t : Nat) (C : zz_C p R s m args meth c D cI own cc nL ret kc ks) {dflt lo hi : Int} {offs : Array Int} {len : Nat} {x : Int32} (hd : decode cc pc = .ok (.tableswitch dflt lo hi offs, len)) (h : x.toInt < lo ∨ hi < x.toInt) (ht : (pc : Int) + dflt = (t : Int)) (kk : zz_V p l e R s m args below meth c D S cI ad A nL kc ks Q t L st M) : zz_V p l e R s m args below meth c D S cI ad A nL kc ks Q pc L (.int x :: st) M :=
  fun H locs ls hP hD hS hl => lv_tableOut C.1 C.2.1 hd h ht (kk H locs ls hP hD hS hl)
theorem zz_tabIn (t : Nat) (C : zz_C p R s m args meth c D cI own cc nL ret kc ks) {dflt lo hi : Int} {offs : Array Int} {len : Nat} {x k : Int32} {off : Int} (hd : decode cc pc = .ok (.tableswitch dflt lo hi offs, len)) (hx : x = k) (h1 : ¬ k.toInt < lo) (h2 : ¬ hi < k.toInt) (ho : offs[(k.toInt - lo).toNat]? = some off) (ht : (pc : Int) + off = (t : Int)) (kk : zz_V p l e R s m args below meth c D S cI ad A nL kc ks Q t L st M) : zz_V p l e R s m args below meth c D S cI ad A nL kc ks Q pc L (.int x :: st) M := by
  subst hx
  exact fun H locs ls hP hD hS hl => lv_tableIn C.1 C.2.1 hd h1 h2 ho ht (kk H locs ls hP hD hS hl)
/-- fewer locals, in another order -/
theorem zz_sub (ks' : List Nat) (hL : lv_pick L ks' = L') (kk : zz_V p l e R s m args below meth c D S cI ad A nL kc ks Q pc L' st M) : zz_V p l e R s m args below meth c D S cI ad A nL kc ks Q pc L st M :=
  fun H locs ls hP hD hS hl => kk H locs ls hP hD hS (lv_sub hl ks' hL)
/-- int arrays -/
theorem zz_iald (n : Nat) (C : zz_C p R s m args meth c D cI own cc nL ret kc ks) {k N : Nat} {i : Int32} (hs : S[k]? = some (.inl N)) (hd : decode cc pc = .ok (.iaload, 1)) (hn : pc + 1 = n) (hi : vp_in i N) (kk : zz_V p l e R s m args below meth c D S cI ad A nL kc ks Q n L (.int (M k i.toNatClampNeg) :: st) M) : zz_V p l e R s m args below meth c D S cI ad A nL kc ks Q pc L (.int i :: .ref (ad k) :: st) M := by
  subst hn
  exact fun H locs ls hP hD hS hl => va_iald C.1 C.2.1 C.2.2.2.2.2.1 hP k 0 (zz_cells_at hs) rfl hi hd (kk H locs ls hP hD hS hl)
theorem zz_iast (n : Nat) (C : zz_C p R s m args meth c D cI own cc nL ret kc ks) {k N : Nat} {i x : Int32} (hs : S[k]? = some (.inl N)) (hd : decode cc pc = .ok (.iastore, 1)) (hn : pc + 1 = n) (hi : vp_in i N) (kk : zz_V p l e R s m args below meth c D S cI ad A nL kc ks Q n L st (zz_up M k i.toNatClampNeg x)) : zz_V p l e R s m args below meth c D S cI ad A nL kc ks Q pc L (.int x :: .int i :: .ref (ad k) :: st) M := by
  subst hn
  intro H locs ls hP hD hS hl
  refine va_iast C.1 C.2.1 C.2.2.2.2.2.1 hP hD hS k 0 (zz_cells_at hs) rfl hi hd (fun H1 locs1 hP1 hD1 hS1 => ?_)
  rw [zz_cells_arr _ hs] at hP1 hD1
  exact kk H1 locs1 ls hP1 hD1 hS1 hl
theorem zz_alen (n : Nat) (C : zz_C p R s m args meth c D cI own cc nL ret kc ks) {k N : Nat} {v : Int32} (hs : S[k]? = some (.inl N)) (hd : decode cc pc = .ok (.arraylength, 1)) (hn : pc + 1 = n) (hv : Int32.ofNat N = v) (kk : zz_V p l e R s m args below meth c D S cI ad A nL kc ks Q n L (.int v :: st) M) : zz_V p l e R s m args below meth c D S cI ad A nL kc ks Q pc L (.ref (ad k) :: st) M := by
  subst hn
  exact fun H locs ls hP hD hS hl => va_alen C.1 C.2.1 C.2.2.2.2.2.1 hP k 0 (zz_cells_at hs) rfl hv hd (kk H locs ls hP hD hS hl)
/-- a field's link: of the class itself, or of a nest mate -/
def zz_FL (own : String) (idx ci j : Nat) : Prop := ∃ (Cn : String) (T : u_T) (N : Nat), vwCl[ci]? = some (Cn, T, N) ∧ j < N ∧ (∀ w ∈ u_ws Cn T N, w ∈ zz_gW) ∧ (T j).1 = Cn ∧ (Cond.fieldLink own idx Cn (T j).2.1 (T j).2.2.1 ∈ zz_gW ∨ ∃ host, (own, idx, Cn, (T j).2.1, (T j).2.2.1, host) ∈ zz_nF)
theorem zz_get0 (n : Nat) (C : zz_C p R s m args meth c D cI own cc nL ret kc ks) {idx q ci j : Nat} {fs : List (Option Nat)} {o : Option Nat} (hd : decode cc pc = .ok (.getfield idx, 3)) (hn : pc + 3 = n) (hF : zz_FL own idx ci j) (hs : S[q]? = some (.inr (ci, fs))) (hj : fs[j]? = some o) (kk : zz_V p l e R s m args below meth c D S cI ad A nL kc ks Q n L (zz_fv ad (M q) j o :: st) M) : zz_V p l e R s m args below meth c D S cI ad A nL kc ks Q pc L (.ref (ad q) :: st) M := by
  subst hn
  obtain ⟨Cn, T, N, hc, hjN, hin, hT, hlink⟩ := hF
  intro H locs ls hP hD hS hl
  rcases hlink with hk | ⟨host, hk⟩
  · exact va_get (D := D) (ci := ci) C.1 C.2.1 C.2.2.2.2.1 hin C.2.2.2.1 C.2.2.2.2.2.1 hP q (zz_cells_at hs) hc j hjN (C.2.2.2.2.1 _ hk) (fun x h => by rw [hT] at h; exact h) (zz_fs_at hj) hd (kk H locs ls hP hD hS hl)
  · exact va_getN (D := D) (ci := ci) C.1 C.2.1 C.2.2.2.2.1 hin C.2.2.2.1 C.2.2.2.2.2.1 hP q (zz_cells_at hs) hc j hjN (va_Nw.use rfl (C.2.2.2.2.2.2.1.1 _ hk)) (fun x h => by rw [hT] at h; exact h) (zz_fs_at hj) hd (kk H locs ls hP hD hS hl)
theorem zz_getI (n : Nat) (C : zz_C p R s m args meth c D cI own cc nL ret kc ks) {idx q ci j : Nat} {fs : List (Option Nat)} (hd : decode cc pc = .ok (.getfield idx, 3)) (hn : pc + 3 = n) (hF : zz_FL own idx ci j) (hs : S[q]? = some (.inr (ci, fs))) (hj : fs[j]? = some none) (kk : zz_V p l e R s m args below meth c D S cI ad A nL kc ks Q n L (.int (M q j) :: st) M) : zz_V p l e R s m args below meth c D S cI ad A nL kc ks Q pc L (.ref (ad q) :: st) M := zz_get0 n C hd hn hF hs hj kk
theorem zz_getR (n : Nat) (C : zz_C p R s m args meth c D cI own cc nL ret kc ks) {idx q ci j t : Nat} {fs : List (Option Nat)} (hd : decode cc pc = .ok (.getfield idx, 3)) (hn : pc + 3 = n) (hF : zz_FL own idx ci j) (hs : S[q]? = some (.inr (ci, fs))) (hj : fs[j]? = some (some t)) (kk : zz_V p l e R s m args below meth c D S cI ad A nL kc ks Q n L (.ref (ad t) :: st) M) : zz_V p l e R s m args below meth c D S cI ad A nL kc ks Q pc L (.ref (ad q) :: st) M := zz_get0 n C hd hn hF hs hj kk
/-- what a store into an int field of a class needs of its table -/
def zz_FS (ci j : Nat) (ty : FieldType) : Prop := ∃ (Cn : String) (T : u_T) (N : Nat) (ty0 : Nat → FieldType), vwCl[ci]? = some (Cn, T, N) ∧ (∀ k, k < N → parseFieldDescriptor (T k).2.2.1 = some (ty0 k)) ∧ (∀ a, a < N → ∀ b, b < N → a ≠ b → (T a).2.1 ≠ (T b).2.1) ∧ (T j).2.2.2 = false ∧ parseFieldDescriptor (T j).2.2.1 = some ty
theorem zz_putI (n : Nat) (C : zz_C p R s m args meth c D cI own cc nL ret kc ks) {idx q ci j : Nat} {fs : List (Option Nat)} {ty : FieldType} {x : Int32} (hd : decode cc pc = .ok (.putfield idx, 3)) (hn : pc + 3 = n) (hF : zz_FL own idx ci j) (hFS : zz_FS ci j ty) (hnr : narrow ty (.int x) = .int x) (hft : fits ty (.int x) = true) (hs : S[q]? = some (.inr (ci, fs))) (hj : fs[j]? = some none) (kk : zz_V p l e R s m args below meth c D S cI ad A nL kc ks Q n L st (zz_up M q j x)) : zz_V p l e R s m args below meth c D S cI ad A nL kc ks Q pc L (.int x :: .ref (ad q) :: st) M := by
  subst hn
  obtain ⟨Cn, T, N, hc, hjN, hin, hT, hlink⟩ := hF
  obtain ⟨Cn', T', N', ty0, hc', hty, hnm, hfin, hdsc⟩ := hFS
  cases hc.symm.trans hc'
  intro H locs ls hP hD hS hl
  have hlen : j < (zz_fs ad (M q) fs).length := by simpa [zz_fs] using (List.getElem?_eq_some_iff.mp hj).1
  rcases hlink with hk | ⟨host, hk⟩
  · refine va_put (D := D) (ci := ci) C.1 C.2.1 C.2.2.2.2.1 hin ty0 hty hnm C.2.2.2.1 C.2.2.2.2.2.1 hP hD hS q (zz_cells_at hs) hc j hjN (C.2.2.2.2.1 _ hk) (fun x h => by rw [hT] at h; exact h) hfin hdsc hnr hft hlen hd (fun H1 locs1 hP1 hD1 hS1 => ?_)
    rw [zz_cells_obj x hs hj] at hP1 hD1
    exact kk H1 locs1 ls hP1 hD1 hS1 hl
  · refine va_putN (D := D) (ci := ci) C.1 C.2.1 C.2.2.2.2.1 hin ty0 hty hnm C.2.2.2.1 C.2.2.2.2.2.1 hP hD hS q (zz_cells_at hs) hc j hjN (va_Nw.use rfl (C.2.2.2.2.2.2.1.1 _ hk)) (fun x h => by rw [hT] at h; exact h) hfin hdsc hnr hft hlen hd (fun H1 locs1 hP1 hD1 hS1 => ?_)
    rw [zz_cells_obj x hs hj] at hP1 hD1
    exact kk H1 locs1 ls hP1 hD1 hS1 hl
/-- Math.max, Math.min, System.arraycopy -/
theorem zz_max (n : Nat) (C : zz_C p R s m args meth c D cI own cc nL ret kc ks) {idx : Nat} {x y : Int32} (hd : decode cc pc = .ok (.invokestatic idx, 3)) (hn : pc + 3 = n) (hw : Cond.methodLink own idx Lib.Math.max.name ∈ zz_gW ∧ Cond.static Lib.Math.max.name ∈ zz_gW ∧ Cond.initialized "java/lang/Math" ∈ zz_gW ∧ Cond.code Lib.Math.max.name Lib.Math.max.code 2 (some .int) ∈ zz_gW) (hR : 1 ≤ R.frames ∧ (st.map fun v => v.category).sum + 13 ≤ R.locals) (kk : zz_V p l e R s m args below meth c D S cI ad A nL kc ks Q n L (.int (if x < y then y else x) :: st) M) : zz_V p l e R s m args below meth c D S cI ad A nL kc ks Q pc L (.int y :: .int x :: st) M := by
  subst hn
  exact fun H locs ls hP hD hS hl => va_mmax C.1 C.2.1 (C.2.2.1.trans hl.1.symm) C.2.2.2.1 (C.2.2.2.2.1 _ hw.1) (C.2.2.2.2.1 _ hw.2.1) (C.2.2.2.2.1 _ hw.2.2.1) (C.2.2.2.2.1 _ hw.2.2.2) hR.1 hR.2 C.2.2.2.2.2.2.2.2.2.1 C.2.2.2.2.2.2.2.2.2.2 hd (kk H locs ls hP hD hS hl)
theorem zz_min (n : Nat) (C : zz_C p R s m args meth c D cI own cc nL ret kc ks) {idx : Nat} {x y : Int32} (hd : decode cc pc = .ok (.invokestatic idx, 3)) (hn : pc + 3 = n) (hw : Cond.methodLink own idx Lib.Math.min.name ∈ zz_gW ∧ Cond.static Lib.Math.min.name ∈ zz_gW ∧ Cond.initialized "java/lang/Math" ∈ zz_gW ∧ Cond.code Lib.Math.min.name Lib.Math.min.code 2 (some .int) ∈ zz_gW) (hR : 1 ≤ R.frames ∧ (st.map fun v => v.category).sum + 13 ≤ R.locals) (kk : zz_V p l e R s m args below meth c D S cI ad A nL kc ks Q n L (.int (if y < x then y else x) :: st) M) : zz_V p l e R s m args below meth c D S cI ad A nL kc ks Q pc L (.int y :: .int x :: st) M := by
  subst hn
  exact fun H locs ls hP hD hS hl => va_mmin C.1 C.2.1 (C.2.2.1.trans hl.1.symm) C.2.2.2.1 (C.2.2.2.2.1 _ hw.1) (C.2.2.2.2.1 _ hw.2.1) (C.2.2.2.2.1 _ hw.2.2.1) (C.2.2.2.2.1 _ hw.2.2.2) hR.1 hR.2 C.2.2.2.2.2.2.2.2.2.1 C.2.2.2.2.2.2.2.2.2.2 hd (kk H locs ls hP hD hS hl)
theorem zz_copy (n : Nat) (C : zz_C p R s m args meth c D cI own cc nL ret kc ks) {idx k0 k1 N0 N1 : Nat} {sp dp w : Int32} (hd : decode cc pc = .ok (.invokestatic idx, 3)) (hn : pc + 3 = n) (hw : Cond.methodLink own idx arraycopyName ∈ zz_gW ∧ Cond.native arraycopyName ∈ zz_gW ∧ Cond.static arraycopyName ∈ zz_gW ∧ Cond.initialized "java/lang/System" ∈ zz_gW) (hs0 : S[k0]? = some (.inl N0)) (hs1 : S[k1]? = some (.inl N1)) (hb : (¬ sp < 0 ∧ ¬ dp < 0 ∧ ¬ w < 0) ∧ sp.toNatClampNeg + w.toNatClampNeg ≤ N0 ∧ dp.toNatClampNeg + w.toNatClampNeg ≤ N1) (hR : 1 ≤ R.frames ∧ (st.map fun v => v.category).sum + (nativeFrameWords "java/lang/System" "arraycopy" 5 + 11) ≤ R.locals) (kk : zz_V p l e R s m args below meth c D S cI ad A nL kc ks Q n L st (zz_set M k1 (va_cpy (M k0) (M k1) sp.toNatClampNeg dp.toNatClampNeg w.toNatClampNeg))) : zz_V p l e R s m args below meth c D S cI ad A nL kc ks Q pc L (.int w :: .int dp :: .ref (ad k1) :: .int sp :: .ref (ad k0) :: st) M := by
  subst hn
  intro H locs ls hP hD hS hl
  refine va_copyi C.1 C.2.1 (C.2.2.1.trans hl.1.symm) C.2.2.2.1 (C.2.2.2.2.1 _ hw.1) (C.2.2.2.2.1 _ hw.2.1) (C.2.2.2.2.1 _ hw.2.2.1) (C.2.2.2.2.1 _ hw.2.2.2) C.2.2.2.2.2.1 hP hD hS k0 k1 0 0 (zz_cells_at hs0) (zz_cells_at hs1) rfl rfl rfl hb.1.1 hb.1.2.1 hb.1.2.2 hb.2.1 hb.2.2 (fun _ _ => rfl) hR.1 hR.2 hd (fun H1 locs1 hP1 hD1 hS1 => ?_)
  rw [zz_cells_arr _ hs1] at hP1 hD1
  exact kk H1 locs1 ls hP1 hD1 hS1 hl
end ZR
end
section
section ZC
variable {p : Program} {l : Launch} {e : Env} {R : Room} {s : State} {m : MethodId} {args : Array Value} {below : List Frame} {meth : Method} {c : Code} {D : va_G} {S : List zz_Sh} {cI : ClassId} {ad : Nat → Nat} {A : Nat → Prop} {own : String} {cc : ByteArray} {nL kc ks : Nat} {ret : Option FieldType} {Q : State → Prop} {pc : Nat} {L L' : List (Nat × Value)} {st : List Value} {M M' : zz_Mem}
/-- behind a call -/
theorem zz_run {H : Heap} {locs : List Loc} {ls : Array Slot} {st0 rest : List Value} {v : Option Value} {a : Array Value} (hr : va_Run p l e R s m args below meth c H locs kc ks 0 0 (F0 m pc ls st0) rest (zz_Q D S cI ad v M' a) (zz_A S ad)) (hS : va_S A s.heap H locs) (hA : ∀ q, zz_A S ad q → A q)
    (kk : ∀ (H1 : Heap) (locs1 : List Loc), H.size ≤ H1.size → (∀ q : Nat, q < H.size → ¬ zz_A S ad q → H1[q]? = H[q]?) → va_P D vwCl (zz_cells S cI ad M') H1 → va_D (zz_A S ad) (zz_cells S cI ad M') → va_S A s.heap H1 locs1 → W p l e R s m args below meth c H1 locs1 kc ks Q (F0 m (pc + 3) ls (v.toList ++ rest))) : W p l e R s m args below meth c H locs kc ks Q (F0 m pc ls st0) := by
  intro T hT X
  obtain ⟨w, st₀, t, T', L, h0, X', hL, e1, e2, ⟨hv, ⟨hP1, -, hD1, -⟩, hz, hk⟩, stp⟩ := hr T hT X
  cases hv
  rw [h0] at hz hk
  obtain ⟨t2, a1, b1⟩ := kk T'.heap (locs ++ L) (by rw [e1]; exact hz) (fun q h1 h2 => by rw [e1]; exact hk q h1 h2) (by rw [e1]; exact hP1) hD1
    ⟨Nat.le_trans hS.1 (by rw [e1]; exact hz), fun q h1 h2 => by rw [e1, hk q (Nat.lt_of_lt_of_le h1 hS.1) (fun z => h2 (hA q z))]; exact hS.2.1 q h1 h2, fun q hq => by
      rcases List.mem_append.mp hq with h | h
      · exact hS.2.2 q h
      · exact hA _ (hL q h)⟩ T' rfl X'
  exact ⟨t2, stp t2 a1, b1⟩
theorem zz_blind {av : List Value} : FrameBlind (va_Pc av (zz_Wd D S cI ad M)) := fun a U g mk q => by
  obtain ⟨q0, qP, qK, qD, qN⟩ := q
  exact ⟨q0, qP, va_K.moved (u := U) (U := U.calling g mk a) (Vm.Alike.refl U.vm) qK, qD, zz_N.same (u := U) rfl qN⟩
theorem zz_pre {av : List Value} {H : Heap} (hK : va_K D vwCl [(cI, .int)] s) (hN : zz_N s) (hP : va_P D vwCl (zz_cells S cI ad M) H) (hD : va_D A (zz_cells S cI ad M)) : ∀ U : State, U.heap = H → s.WarmedH U.vm → va_Pc av (zz_Wd D S cI ad M) av.toArray U :=
  fun U hU hW => ⟨rfl, by rw [hU]; exact hP, va_K.moved hW.alike hK, hD.weaken (fun k q hk _ => by
    have hlt : k < S.length := by
      have := (List.getElem?_eq_some_iff.mp hk).1
      rwa [zz_cells_len] at this
    refine ⟨k, hlt, ?_⟩
    rw [zz_cells_at (List.getElem?_eq_getElem hlt)] at hk
    cases hk
    exact zz_cel_ad), zz_N.warm hW hN⟩
/-- what a call needs of the words: an instance method, a static one -/
def zz_MV (own : String) (idx : Nat) (y : MethodName) (bytes : ByteArray) (maxL : Nat) (ret : Option FieldType) (np : Nat) : Prop :=
  (Cond.methodLink own idx y ∈ zz_gW ∨ ∃ host, (own, idx, y, host) ∈ zz_nM) ∧ Cond.instanceMethod y ∈ zz_gW ∧ Cond.selects y.cls y y ∈ zz_gW ∧ Cond.initialized y.cls ∈ zz_gW ∧ Cond.code y bytes maxL ret ∈ zz_gW ∧ (y.cls ≠ "java/lang/invoke/MethodHandle" ∧ y.cls ≠ "java/lang/invoke/VarHandle") ∧ (parseMethodDescriptor y.desc).map (fun d => d.parameters.length) = some np
def zz_MS (own : String) (idx : Nat) (y : MethodName) (bytes : ByteArray) (maxL : Nat) (ret : Option FieldType) (np : Nat) : Prop :=
  (Cond.methodLink own idx y ∈ zz_gW ∨ ∃ host, (own, idx, y, host) ∈ zz_nM) ∧ Cond.static y ∈ zz_gW ∧ Cond.initialized y.cls ∈ zz_gW ∧ Cond.code y bytes maxL ret ∈ zz_gW ∧ (y.cls ≠ "java/lang/invoke/MethodHandle" ∧ y.cls ≠ "java/lang/invoke/VarHandle") ∧ (parseMethodDescriptor y.desc).map (fun d => d.parameters.length) = some np
theorem zz_len {y : MethodName} {np : Nat} (h : (parseMethodDescriptor y.desc).map (fun d => d.parameters.length) = some np) : ∀ sig, parseMethodDescriptor y.desc = some sig → np = sig.parameters.length := fun sig hs => by
  rw [hs] at h
  exact (Option.some.inj h).symm
/-- an instance method: the run, in any world that holds the callee's -/
theorem zz_runV {y : MethodName} {bytes : ByteArray} {maxL : Nat} {rt : Option FieldType} {np dd idx q ci : Nat} {As : List Value} {rest : List Value} {v : Option Value} {H : Heap} {locs : List Loc} {ls : Array Slot} {st0 : List Value} {fs : List (Option Nat)} {vC : vw_C} (C : zz_C p R s m args meth c D cI own cc nL ret kc ks) (hd : decode cc pc = .ok (.invokevirtual idx, 3)) (hw : zz_MV own idx y bytes maxL rt np) (hM : zz_K l D S cI ad dd y bytes maxL rt (.ref (ad q) :: As) M v M')
    (hs : S[q]? = some (.inr (ci, fs))) (hc : vwCl[ci]? = some vC) (hy : vC.1 = y.cls) (hn : As.length = np) (hst : st0 = As.reverse ++ .ref (ad q) :: rest) (hcat : (rest.map fun v => v.category).sum ≤ 8) (hR : dd + 1 ≤ R.frames ∧ 8 + (maxL + 11) + 64 * dd ≤ R.locals) (hP : va_P D vwCl (zz_cells S cI ad M) H) (hD : va_D A (zz_cells S cI ad M)) (hls : ls.size = nL) :
    va_Run p l e R s m args below meth c H locs kc ks 0 0 (F0 m pc ls st0) rest (zz_Q D S cI ad v M' (Value.ref (ad q) :: As).toArray) (zz_A S ad) := by
  obtain ⟨hx, hb, hml, hown, hts, hK, hN, hr, hlk, hkc, hks⟩ := C
  obtain ⟨hlink, h1, h2, h3, h4, h5, h6⟩ := hw
  have hpre := zz_pre (av := .ref (ad q) :: As) hK hN hP hD
  have hrc : ∃ cellB : Cell, H[ad q]? = some cellB ∧ cellB.vm.isStatics = false ∧ s.vm.findClass y.cls = some cellB.cls := by
    rw [← hy]
    exact va_recv hK hP (ci := ci) (q0 := q) hc (zz_cells_at hs)
  rcases hlink with hk | ⟨host, hk⟩
  · exact va_runV (Ts := zz_gW) ⟨hx, hb, hml, hown, hts⟩ hM ⟨⟨rfl, rfl, hR.1, hR.2, pay_in hts (zz_good h4), List.mem_cons_self, hts _ h4, hts _ h3, h5, zz_len h6, hts _ hk⟩, hts _ h1, hts _ h2⟩ ⟨zz_blind, hrc, hpre⟩ rfl hn hls hst (lv_room hcat) hd ⟨hkc, hks⟩
  · exact va_runVN (Ts := zz_gW) ⟨hx, hb, hml, hown, hts⟩ hM ⟨⟨⟨rfl, rfl, hR.1, hR.2, pay_in hts (zz_good h4), List.mem_cons_self⟩, hts _ h4, hts _ h3, h5, zz_len h6, va_Nw.use rfl (hN.2 _ hk)⟩, hts _ h1, hts _ h2⟩ ⟨zz_blind, hrc, hpre⟩ rfl hn hls hst (lv_room hcat) hd ⟨hkc, hks⟩
theorem zz_runS {y : MethodName} {bytes : ByteArray} {maxL : Nat} {rt : Option FieldType} {np dd idx : Nat} {As : List Value} {rest : List Value} {v : Option Value} {H : Heap} {locs : List Loc} {ls : Array Slot} {st0 : List Value} (C : zz_C p R s m args meth c D cI own cc nL ret kc ks) (hd : decode cc pc = .ok (.invokestatic idx, 3)) (hw : zz_MS own idx y bytes maxL rt np) (hM : zz_K l D S cI ad dd y bytes maxL rt As M v M')
    (hn : As.length = np) (hst : st0 = As.reverse ++ rest) (hcat : (rest.map fun v => v.category).sum ≤ 8) (hR : dd + 1 ≤ R.frames ∧ 8 + (maxL + 11) + 64 * dd ≤ R.locals) (hP : va_P D vwCl (zz_cells S cI ad M) H) (hD : va_D A (zz_cells S cI ad M)) (hls : ls.size = nL) :
    va_Run p l e R s m args below meth c H locs kc ks 0 0 (F0 m pc ls st0) rest (zz_Q D S cI ad v M' As.toArray) (zz_A S ad) := by
  obtain ⟨hx, hb, hml, hown, hts, hK, hN, hr, hlk, hkc, hks⟩ := C
  obtain ⟨hlink, h1, h3, h4, h5, h6⟩ := hw
  have hpre := zz_pre (av := As) hK hN hP hD
  rcases hlink with hk | ⟨host, hk⟩
  · exact va_runS (Ts := zz_gW) ⟨hx, hb, hml, hown, hts⟩ hM ⟨⟨rfl, rfl, hR.1, hR.2, pay_in hts (zz_good h4), List.mem_cons_self, hts _ h4, hts _ h3, h5, zz_len h6, hts _ hk⟩, hts _ h1⟩ ⟨zz_blind, hpre⟩ rfl hn hls hst (lv_room hcat) hd ⟨hkc, hks⟩
  · exact va_runSN (Ts := zz_gW) ⟨hx, hb, hml, hown, hts⟩ hM ⟨⟨⟨rfl, rfl, hR.1, hR.2, pay_in hts (zz_good h4), List.mem_cons_self⟩, hts _ h4, hts _ h3, h5, zz_len h6, va_Nw.use rfl (hN.2 _ hk)⟩, hts _ h1, trivial⟩ ⟨zz_blind, hpre⟩ rfl hn hls hst (lv_room hcat) hd ⟨hkc, hks⟩
/-- the rows of a call: vs is what lies on the stack behind it -/
theorem zz_callV (n : Nat) {y : MethodName} {bytes : ByteArray} {maxL : Nat} {rt : Option FieldType} {np dd idx q ci : Nat} (As : List Value) {v : Option Value} {st0 vs : List Value} {fs : List (Option Nat)} {vC : vw_C} (C : zz_C p R s m args meth c D cI own cc nL ret kc ks) (hd : decode cc pc = .ok (.invokevirtual idx, 3)) (hn : pc + 3 = n) (hw : zz_MV own idx y bytes maxL rt np) (hM : zz_K l D S cI ad dd y bytes maxL rt (.ref (ad q) :: As) M v M')
    (hs : S[q]? = some (.inr (ci, fs))) (hc : vwCl[ci]? = some vC) (hy : vC.1 = y.cls) (hnp : As.length = np) (hst : st0 = As.reverse ++ .ref (ad q) :: st) (hvs : v.toList ++ st = vs) (hcat : (st.map fun v => v.category).sum ≤ 8) (hR : dd + 1 ≤ R.frames ∧ 8 + (maxL + 11) + 64 * dd ≤ R.locals)
    (kk : zz_V p l e R s m args below meth c D S cI ad A nL kc ks Q n L vs M') : zz_V p l e R s m args below meth c D S cI ad A nL kc ks Q pc L st0 M := by
  subst hn; subst hvs
  intro H locs ls hP hD hS hl
  exact zz_run (zz_runV C hd hw hM hs hc hy hnp hst hcat hR hP hD hl.1) hS (zz_A_of hD) (fun H1 locs1 _ _ hP1 _ hS1 => kk H1 locs1 ls hP1 (zz_D_mem hD) hS1 hl)
theorem zz_callS (n : Nat) {y : MethodName} {bytes : ByteArray} {maxL : Nat} {rt : Option FieldType} {np dd idx : Nat} (As : List Value) {v : Option Value} {st0 vs : List Value} (C : zz_C p R s m args meth c D cI own cc nL ret kc ks) (hd : decode cc pc = .ok (.invokestatic idx, 3)) (hn : pc + 3 = n) (hw : zz_MS own idx y bytes maxL rt np) (hM : zz_K l D S cI ad dd y bytes maxL rt As M v M')
    (hnp : As.length = np) (hst : st0 = As.reverse ++ st) (hvs : v.toList ++ st = vs) (hcat : (st.map fun v => v.category).sum ≤ 8) (hR : dd + 1 ≤ R.frames ∧ 8 + (maxL + 11) + 64 * dd ≤ R.locals)
    (kk : zz_V p l e R s m args below meth c D S cI ad A nL kc ks Q n L vs M') : zz_V p l e R s m args below meth c D S cI ad A nL kc ks Q pc L st0 M := by
  subst hn; subst hvs
  intro H locs ls hP hD hS hl
  exact zz_run (zz_runS C hd hw hM hnp hst hcat hR hP hD hl.1) hS (zz_A_of hD) (fun H1 locs1 _ _ hP1 _ hS1 => kk H1 locs1 ls hP1 (zz_D_mem hD) hS1 hl)
/-- the ends -/
theorem zz_iret {v : Int32} {w : Option Value} (C : zz_C p R s m args meth c D cI own cc nL (some .int) 0 0) (hd : decode cc pc = .ok (.ireturn, 1)) (hv : w = some (.int v)) (hM : M' = M) : zz_V p l e R s m args below meth c D S cI ad (zz_A S ad) nL 0 0 (MQ below (zz_Q D S cI ad w M') args s 0 0 (zz_A S ad)) pc L [.int v] M := by
  subst hv; subst hM
  intro H locs ls hP hD hS hl
  have hlk := C.2.2.2.2.2.2.2.2.1
  exact W.iret (v := v) C.1 C.2.1 C.2.2.2.2.2.2.2.1 (fun t ht hW => ⟨rfl, ⟨by rw [ht]; exact hP, va_K.moved hW.alike C.2.2.2.2.2.1, hD, zz_N.warm hW C.2.2.2.2.2.2.1⟩, hS.F ht⟩) hS.2.2 hd hlk
theorem zz_zret {v : Int32} {w : Option Value} (C : zz_C p R s m args meth c D cI own cc nL (some .boolean) 0 0) (hd : decode cc pc = .ok (.ireturn, 1)) (hv : w = some (.int v)) (hM : M' = M) (hz : v &&& 1 = v) : zz_V p l e R s m args below meth c D S cI ad (zz_A S ad) nL 0 0 (MQ below (zz_Q D S cI ad w M') args s 0 0 (zz_A S ad)) pc L [.int v] M := by
  subst hv; subst hM
  intro H locs ls hP hD hS hl
  have hlk := C.2.2.2.2.2.2.2.2.1
  exact W.zret (v := v) C.1 C.2.1 C.2.2.2.2.2.2.2.1 (by show Value.int (v &&& 1) = _; rw [hz]) (fun t ht hW => ⟨rfl, ⟨by rw [ht]; exact hP, va_K.moved hW.alike C.2.2.2.2.2.1, hD, zz_N.warm hW C.2.2.2.2.2.2.1⟩, hS.F ht⟩) hS.2.2 hd hlk
theorem zz_vret {w : Option Value} (C : zz_C p R s m args meth c D cI own cc nL none 0 0) (hd : decode cc pc = .ok (.return_, 1)) (hv : w = none) (hM : M' = M) : zz_V p l e R s m args below meth c D S cI ad (zz_A S ad) nL 0 0 (MQ below (zz_Q D S cI ad w M') args s 0 0 (zz_A S ad)) pc L [] M := by
  subst hv; subst hM
  intro H locs ls hP hD hS hl
  have hlk := C.2.2.2.2.2.2.2.2.1
  exact W.vret C.1 C.2.1 C.2.2.2.2.2.2.2.1 (fun t ht hW => ⟨rfl, ⟨by rw [ht]; exact hP, va_K.moved hW.alike C.2.2.2.2.2.1, hD, zz_N.warm hW C.2.2.2.2.2.2.1⟩, hS.F ht⟩) hS.2.2 hd hlk
end ZC
/-- a contract out of a walk of the body -/
theorem zz_entry {l : Launch} {D : va_G} {S : List zz_Sh} {cI : ClassId} {ad : Nat → Nat} {d : Nat} {y : MethodName} {cc : ByteArray} {maxL : Nat} {ret : Option FieldType} {av : List Value} {M : zz_Mem} {v : Option Value} {M' : zz_Mem} {own : String} {L : List (Nat × Value)} (hy : plainName y.cls = true) (ho : y.cls = own) (hlen : (lg_sl av).length ≤ maxL) (hL : lv_args 0 av = L)
    (body : ∀ (p : Program) (e : Env) (s : State) (m : MethodId) (args : Array Value) (below : List Frame) (meth : Method) (c : Code), zz_C p (zz_rm d) s m args meth c D cI own cc maxL ret 0 0 → zz_V p l e (zz_rm d) s m args below meth c D S cI ad (zz_A S ad) maxL 0 0 (MQ below (zz_Q D S cI ad v M') args s 0 0 (zz_A S ad)) 0 L [] M) : zz_K l D S cI ad d y cc maxL ret av M v M' := by
  subst hL
  refine Met.ofW (cc := cc) (maxL := maxL) (ret := ret) hy rfl ?_
  intro p e s m args below meth c s₁ B hml hv
  obtain ⟨rfl, hP, hK, hD, hN⟩ := hv
  have hts := atoms_spec (ws := .code y cc maxL ret :: zz_gW) B.pre
  have hown : s.vm.findClass own = some m.cls := by rw [← ho]; exact findClass_of_methodNamed B.named
  rw [lg_entry_eq]
  exact body p e s m _ below meth c ⟨B.exec, B.bytes, hml, hown, fun w hw => hts w (List.mem_cons_of_mem _ hw), hK, hN, B.returns, B.notSynchronized, Nat.le_refl 0, Nat.le_refl 0⟩ s.heap [] _ hP hD va_S.rf (lv_entry av hlen)
end
