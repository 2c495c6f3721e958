section
-- ===== PART A: goes FIRST, ahead of the names: the tables' words, and 'selects' of the private methods out of them =====
/-- a private method of a class that the tables say can be made, by its rows of tables_1 -/
def lw_okq (q : MethodName × Nat) : Prop := (q.1.cls ≠ "java/lang/invoke/MethodHandle" ∧ q.1.cls ≠ "java/lang/invoke/VarHandle") ∧ Cond.instantiable q.1.cls q.2 ∈ tables_1 ∧ Cond.privateMethod q.1 ∈ tables_1 ∧ Cond.instanceMethod q.1 ∈ tables_1
theorem lw_p0 : lw_okq (⟨"ModeCells$Text", "add", "(I)V"⟩, 2) := ⟨⟨by decide +kernel, by decide +kernel⟩, List.mem_of_getElem? (i := 25) (by decide +kernel), List.mem_of_getElem? (i := 307) (by decide +kernel), List.mem_of_getElem? (i := 308) (by decide +kernel)⟩
theorem lw_p1 : lw_okq (⟨"ModeCells$Reader", "read", "()I"⟩, 4) := ⟨⟨by decide +kernel, by decide +kernel⟩, List.mem_of_getElem? (i := 84) (by decide +kernel), List.mem_of_getElem? (i := 319) (by decide +kernel), List.mem_of_getElem? (i := 320) (by decide +kernel)⟩
theorem lw_p2 : lw_okq (⟨"ModeCells$Book", "dropAll", "()V"⟩, 9) := ⟨⟨by decide +kernel, by decide +kernel⟩, List.mem_of_getElem? (i := 41) (by decide +kernel), List.mem_of_getElem? (i := 323) (by decide +kernel), List.mem_of_getElem? (i := 324) (by decide +kernel)⟩
theorem lw_p3 : lw_okq (⟨"ModeCells$Reader", "skipBlanks", "()V"⟩, 4) := ⟨⟨by decide +kernel, by decide +kernel⟩, List.mem_of_getElem? (i := 84) (by decide +kernel), List.mem_of_getElem? (i := 327) (by decide +kernel), List.mem_of_getElem? (i := 328) (by decide +kernel)⟩
theorem lw_p4 : lw_okq (⟨"ModeCells$Text", "letterAt", "(I)I"⟩, 2) := ⟨⟨by decide +kernel, by decide +kernel⟩, List.mem_of_getElem? (i := 25) (by decide +kernel), List.mem_of_getElem? (i := 331) (by decide +kernel), List.mem_of_getElem? (i := 332) (by decide +kernel)⟩
theorem lw_p5 : lw_okq (⟨"ModeCells$Reader", "readItem", "()V"⟩, 4) := ⟨⟨by decide +kernel, by decide +kernel⟩, List.mem_of_getElem? (i := 84) (by decide +kernel), List.mem_of_getElem? (i := 335) (by decide +kernel), List.mem_of_getElem? (i := 336) (by decide +kernel)⟩
theorem lw_p6 : lw_okq (⟨"ModeCells$Reader", "readCell", "()V"⟩, 4) := ⟨⟨by decide +kernel, by decide +kernel⟩, List.mem_of_getElem? (i := 84) (by decide +kernel), List.mem_of_getElem? (i := 339) (by decide +kernel), List.mem_of_getElem? (i := 340) (by decide +kernel)⟩
theorem lw_p7 : lw_okq (⟨"ModeCells$Book", "openCell", "()V"⟩, 9) := ⟨⟨by decide +kernel, by decide +kernel⟩, List.mem_of_getElem? (i := 41) (by decide +kernel), List.mem_of_getElem? (i := 343) (by decide +kernel), List.mem_of_getElem? (i := 344) (by decide +kernel)⟩
theorem lw_p8 : lw_okq (⟨"ModeCells$Reader", "atEnd", "()Z"⟩, 4) := ⟨⟨by decide +kernel, by decide +kernel⟩, List.mem_of_getElem? (i := 84) (by decide +kernel), List.mem_of_getElem? (i := 347) (by decide +kernel), List.mem_of_getElem? (i := 348) (by decide +kernel)⟩
theorem lw_p9 : lw_okq (⟨"ModeCells$Reader", "readNumber", "(II)I"⟩, 4) := ⟨⟨by decide +kernel, by decide +kernel⟩, List.mem_of_getElem? (i := 84) (by decide +kernel), List.mem_of_getElem? (i := 351) (by decide +kernel), List.mem_of_getElem? (i := 352) (by decide +kernel)⟩
theorem lw_p10 : lw_okq (⟨"ModeCells$Book", "addStep", "(I)V"⟩, 9) := ⟨⟨by decide +kernel, by decide +kernel⟩, List.mem_of_getElem? (i := 41) (by decide +kernel), List.mem_of_getElem? (i := 359) (by decide +kernel), List.mem_of_getElem? (i := 360) (by decide +kernel)⟩
theorem lw_p11 : lw_okq (⟨"ModeCells$Reader", "readEnd", "()V"⟩, 4) := ⟨⟨by decide +kernel, by decide +kernel⟩, List.mem_of_getElem? (i := 84) (by decide +kernel), List.mem_of_getElem? (i := 363) (by decide +kernel), List.mem_of_getElem? (i := 364) (by decide +kernel)⟩
theorem lw_p12 : lw_okq (⟨"ModeCells$Reader", "readMode", "()V"⟩, 4) := ⟨⟨by decide +kernel, by decide +kernel⟩, List.mem_of_getElem? (i := 84) (by decide +kernel), List.mem_of_getElem? (i := 367) (by decide +kernel), List.mem_of_getElem? (i := 368) (by decide +kernel)⟩
theorem lw_p13 : lw_okq (⟨"ModeCells$Book", "openMode", "(I)V"⟩, 9) := ⟨⟨by decide +kernel, by decide +kernel⟩, List.mem_of_getElem? (i := 41) (by decide +kernel), List.mem_of_getElem? (i := 371) (by decide +kernel), List.mem_of_getElem? (i := 372) (by decide +kernel)⟩
theorem lw_p14 : lw_okq (⟨"ModeCells$Book", "addPart", "(II)V"⟩, 9) := ⟨⟨by decide +kernel, by decide +kernel⟩, List.mem_of_getElem? (i := 41) (by decide +kernel), List.mem_of_getElem? (i := 375) (by decide +kernel), List.mem_of_getElem? (i := 376) (by decide +kernel)⟩
theorem lw_p15 : lw_okq (⟨"ModeCells$Book", "copyFrom", "(LModeCells$Book;)V"⟩, 9) := ⟨⟨by decide +kernel, by decide +kernel⟩, List.mem_of_getElem? (i := 41) (by decide +kernel), List.mem_of_getElem? (i := 379) (by decide +kernel), List.mem_of_getElem? (i := 380) (by decide +kernel)⟩
def lw_privs_1 : List (MethodName × Nat) := [(⟨"ModeCells$Text", "add", "(I)V"⟩, 2), (⟨"ModeCells$Reader", "read", "()I"⟩, 4), (⟨"ModeCells$Book", "dropAll", "()V"⟩, 9), (⟨"ModeCells$Reader", "skipBlanks", "()V"⟩, 4), (⟨"ModeCells$Text", "letterAt", "(I)I"⟩, 2), (⟨"ModeCells$Reader", "readItem", "()V"⟩, 4), (⟨"ModeCells$Reader", "readCell", "()V"⟩, 4), (⟨"ModeCells$Book", "openCell", "()V"⟩, 9), (⟨"ModeCells$Reader", "atEnd", "()Z"⟩, 4), (⟨"ModeCells$Reader", "readNumber", "(II)I"⟩, 4), (⟨"ModeCells$Book", "addStep", "(I)V"⟩, 9), (⟨"ModeCells$Reader", "readEnd", "()V"⟩, 4), (⟨"ModeCells$Reader", "readMode", "()V"⟩, 4), (⟨"ModeCells$Book", "openMode", "(I)V"⟩, 9), (⟨"ModeCells$Book", "addPart", "(II)V"⟩, 9), (⟨"ModeCells$Book", "copyFrom", "(LModeCells$Book;)V"⟩, 9)]
theorem lw_r1 : ∀ q ∈ lw_privs_1, lw_okq q := List.forall_mem_cons.mpr ⟨lw_p0, List.forall_mem_cons.mpr ⟨lw_p1, List.forall_mem_cons.mpr ⟨lw_p2, List.forall_mem_cons.mpr ⟨lw_p3, List.forall_mem_cons.mpr ⟨lw_p4, List.forall_mem_cons.mpr ⟨lw_p5, List.forall_mem_cons.mpr ⟨lw_p6, List.forall_mem_cons.mpr ⟨lw_p7, List.forall_mem_cons.mpr ⟨lw_p8, List.forall_mem_cons.mpr ⟨lw_p9, List.forall_mem_cons.mpr ⟨lw_p10, List.forall_mem_cons.mpr ⟨lw_p11, List.forall_mem_cons.mpr ⟨lw_p12, List.forall_mem_cons.mpr ⟨lw_p13, List.forall_mem_cons.mpr ⟨lw_p14, List.forall_mem_cons.mpr ⟨lw_p15, fun _ h => absurd h List.not_mem_nil⟩⟩⟩⟩⟩⟩⟩⟩⟩⟩⟩⟩⟩⟩⟩⟩
theorem lw_p16 : lw_okq (⟨"ModeCells$Ways", "dropMeasures", "()V"⟩, 5) := ⟨⟨by decide +kernel, by decide +kernel⟩, List.mem_of_getElem? (i := 181) (by decide +kernel), List.mem_of_getElem? (i := 392) (by decide +kernel), List.mem_of_getElem? (i := 393) (by decide +kernel)⟩
theorem lw_p17 : lw_okq (⟨"ModeCells$Tune", "dropNotes", "()V"⟩, 3) := ⟨⟨by decide +kernel, by decide +kernel⟩, List.mem_of_getElem? (i := 103) (by decide +kernel), List.mem_of_getElem? (i := 396) (by decide +kernel), List.mem_of_getElem? (i := 397) (by decide +kernel)⟩
theorem lw_p18 : lw_okq (⟨"ModeCells$Past", "dropAll", "()V"⟩, 3) := ⟨⟨by decide +kernel, by decide +kernel⟩, List.mem_of_getElem? (i := 129) (by decide +kernel), List.mem_of_getElem? (i := 400) (by decide +kernel), List.mem_of_getElem? (i := 401) (by decide +kernel)⟩
theorem lw_p19 : lw_okq (⟨"ModeCells$Shelf", "dropAll", "()V"⟩, 2) := ⟨⟨by decide +kernel, by decide +kernel⟩, List.mem_of_getElem? (i := 135) (by decide +kernel), List.mem_of_getElem? (i := 404) (by decide +kernel), List.mem_of_getElem? (i := 405) (by decide +kernel)⟩
theorem lw_p20 : lw_okq (⟨"ModeCells$Book", "stepAt", "(II)I"⟩, 9) := ⟨⟨by decide +kernel, by decide +kernel⟩, List.mem_of_getElem? (i := 41) (by decide +kernel), List.mem_of_getElem? (i := 412) (by decide +kernel), List.mem_of_getElem? (i := 413) (by decide +kernel)⟩
theorem lw_p21 : lw_okq (⟨"ModeCells$Book", "isScale", "(I)Z"⟩, 9) := ⟨⟨by decide +kernel, by decide +kernel⟩, List.mem_of_getElem? (i := 41) (by decide +kernel), List.mem_of_getElem? (i := 420) (by decide +kernel), List.mem_of_getElem? (i := 421) (by decide +kernel)⟩
theorem lw_p22 : lw_okq (⟨"ModeCells$Book", "scaleCount", "()I"⟩, 9) := ⟨⟨by decide +kernel, by decide +kernel⟩, List.mem_of_getElem? (i := 41) (by decide +kernel), List.mem_of_getElem? (i := 424) (by decide +kernel), List.mem_of_getElem? (i := 425) (by decide +kernel)⟩
theorem lw_p23 : lw_okq (⟨"ModeCells$Book", "partsOf", "(I)I"⟩, 9) := ⟨⟨by decide +kernel, by decide +kernel⟩, List.mem_of_getElem? (i := 41) (by decide +kernel), List.mem_of_getElem? (i := 428) (by decide +kernel), List.mem_of_getElem? (i := 429) (by decide +kernel)⟩
theorem lw_p24 : lw_okq (⟨"ModeCells$Book", "cellAt", "(II)I"⟩, 9) := ⟨⟨by decide +kernel, by decide +kernel⟩, List.mem_of_getElem? (i := 41) (by decide +kernel), List.mem_of_getElem? (i := 432) (by decide +kernel), List.mem_of_getElem? (i := 433) (by decide +kernel)⟩
theorem lw_p25 : lw_okq (⟨"ModeCells$Book", "pitchAt", "(II)I"⟩, 9) := ⟨⟨by decide +kernel, by decide +kernel⟩, List.mem_of_getElem? (i := 41) (by decide +kernel), List.mem_of_getElem? (i := 436) (by decide +kernel), List.mem_of_getElem? (i := 437) (by decide +kernel)⟩
theorem lw_p26 : lw_okq (⟨"ModeCells$Past", "remember", "(LModeCells$Tune;)V"⟩, 3) := ⟨⟨by decide +kernel, by decide +kernel⟩, List.mem_of_getElem? (i := 129) (by decide +kernel), List.mem_of_getElem? (i := 444) (by decide +kernel), List.mem_of_getElem? (i := 445) (by decide +kernel)⟩
theorem lw_p27 : lw_okq (⟨"ModeCells$Shelf", "put", "(ILModeCells$Tune;)V"⟩, 2) := ⟨⟨by decide +kernel, by decide +kernel⟩, List.mem_of_getElem? (i := 135) (by decide +kernel), List.mem_of_getElem? (i := 448) (by decide +kernel), List.mem_of_getElem? (i := 449) (by decide +kernel)⟩
theorem lw_p28 : lw_okq (⟨"ModeCells$Tune", "append", "(I)V"⟩, 3) := ⟨⟨by decide +kernel, by decide +kernel⟩, List.mem_of_getElem? (i := 103) (by decide +kernel), List.mem_of_getElem? (i := 453) (by decide +kernel), List.mem_of_getElem? (i := 454) (by decide +kernel)⟩
theorem lw_p29 : lw_okq (⟨"ModeCells$Tune", "removeLast", "()I"⟩, 3) := ⟨⟨by decide +kernel, by decide +kernel⟩, List.mem_of_getElem? (i := 103) (by decide +kernel), List.mem_of_getElem? (i := 461) (by decide +kernel), List.mem_of_getElem? (i := 462) (by decide +kernel)⟩
theorem lw_p30 : lw_okq (⟨"ModeCells$Tune", "isPlace", "(I)Z"⟩, 3) := ⟨⟨by decide +kernel, by decide +kernel⟩, List.mem_of_getElem? (i := 103) (by decide +kernel), List.mem_of_getElem? (i := 469) (by decide +kernel), List.mem_of_getElem? (i := 470) (by decide +kernel)⟩
theorem lw_p31 : lw_okq (⟨"ModeCells$Tune", "replace", "(II)I"⟩, 3) := ⟨⟨by decide +kernel, by decide +kernel⟩, List.mem_of_getElem? (i := 103) (by decide +kernel), List.mem_of_getElem? (i := 473) (by decide +kernel), List.mem_of_getElem? (i := 474) (by decide +kernel)⟩
def lw_privs_2 : List (MethodName × Nat) := [(⟨"ModeCells$Ways", "dropMeasures", "()V"⟩, 5), (⟨"ModeCells$Tune", "dropNotes", "()V"⟩, 3), (⟨"ModeCells$Past", "dropAll", "()V"⟩, 3), (⟨"ModeCells$Shelf", "dropAll", "()V"⟩, 2), (⟨"ModeCells$Book", "stepAt", "(II)I"⟩, 9), (⟨"ModeCells$Book", "isScale", "(I)Z"⟩, 9), (⟨"ModeCells$Book", "scaleCount", "()I"⟩, 9), (⟨"ModeCells$Book", "partsOf", "(I)I"⟩, 9), (⟨"ModeCells$Book", "cellAt", "(II)I"⟩, 9), (⟨"ModeCells$Book", "pitchAt", "(II)I"⟩, 9), (⟨"ModeCells$Past", "remember", "(LModeCells$Tune;)V"⟩, 3), (⟨"ModeCells$Shelf", "put", "(ILModeCells$Tune;)V"⟩, 2), (⟨"ModeCells$Tune", "append", "(I)V"⟩, 3), (⟨"ModeCells$Tune", "removeLast", "()I"⟩, 3), (⟨"ModeCells$Tune", "isPlace", "(I)Z"⟩, 3), (⟨"ModeCells$Tune", "replace", "(II)I"⟩, 3)]
theorem lw_r2 : ∀ q ∈ lw_privs_2, lw_okq q := List.forall_mem_cons.mpr ⟨lw_p16, List.forall_mem_cons.mpr ⟨lw_p17, List.forall_mem_cons.mpr ⟨lw_p18, List.forall_mem_cons.mpr ⟨lw_p19, List.forall_mem_cons.mpr ⟨lw_p20, List.forall_mem_cons.mpr ⟨lw_p21, List.forall_mem_cons.mpr ⟨lw_p22, List.forall_mem_cons.mpr ⟨lw_p23, List.forall_mem_cons.mpr ⟨lw_p24, List.forall_mem_cons.mpr ⟨lw_p25, List.forall_mem_cons.mpr ⟨lw_p26, List.forall_mem_cons.mpr ⟨lw_p27, List.forall_mem_cons.mpr ⟨lw_p28, List.forall_mem_cons.mpr ⟨lw_p29, List.forall_mem_cons.mpr ⟨lw_p30, List.forall_mem_cons.mpr ⟨lw_p31, fun _ h => absurd h List.not_mem_nil⟩⟩⟩⟩⟩⟩⟩⟩⟩⟩⟩⟩⟩⟩⟩⟩
theorem lw_p32 : lw_okq (⟨"ModeCells$Tune", "canShift", "(I)Z"⟩, 3) := ⟨⟨by decide +kernel, by decide +kernel⟩, List.mem_of_getElem? (i := 103) (by decide +kernel), List.mem_of_getElem? (i := 481) (by decide +kernel), List.mem_of_getElem? (i := 482) (by decide +kernel)⟩
theorem lw_p33 : lw_okq (⟨"ModeCells$Tune", "shift", "(I)V"⟩, 3) := ⟨⟨by decide +kernel, by decide +kernel⟩, List.mem_of_getElem? (i := 103) (by decide +kernel), List.mem_of_getElem? (i := 486) (by decide +kernel), List.mem_of_getElem? (i := 487) (by decide +kernel)⟩
theorem lw_p34 : lw_okq (⟨"ModeCells$Past", "restore", "(LModeCells$Tune;)V"⟩, 3) := ⟨⟨by decide +kernel, by decide +kernel⟩, List.mem_of_getElem? (i := 129) (by decide +kernel), List.mem_of_getElem? (i := 494) (by decide +kernel), List.mem_of_getElem? (i := 495) (by decide +kernel)⟩
theorem lw_p35 : lw_okq (⟨"ModeCells$Shelf", "giveTo", "(LModeCells$Tune;I)V"⟩, 2) := ⟨⟨by decide +kernel, by decide +kernel⟩, List.mem_of_getElem? (i := 135) (by decide +kernel), List.mem_of_getElem? (i := 498) (by decide +kernel), List.mem_of_getElem? (i := 499) (by decide +kernel)⟩
theorem lw_p36 : lw_okq (⟨"ModeCells$Book", "partsWith", "(II)I"⟩, 9) := ⟨⟨by decide +kernel, by decide +kernel⟩, List.mem_of_getElem? (i := 41) (by decide +kernel), List.mem_of_getElem? (i := 510) (by decide +kernel), List.mem_of_getElem? (i := 511) (by decide +kernel)⟩
theorem lw_p37 : lw_okq (⟨"ModeCells$Book", "isIn", "(III)Z"⟩, 9) := ⟨⟨by decide +kernel, by decide +kernel⟩, List.mem_of_getElem? (i := 41) (by decide +kernel), List.mem_of_getElem? (i := 515) (by decide +kernel), List.mem_of_getElem? (i := 516) (by decide +kernel)⟩
theorem lw_p38 : lw_okq (⟨"ModeCells$Book", "samePart", "(III)I"⟩, 9) := ⟨⟨by decide +kernel, by decide +kernel⟩, List.mem_of_getElem? (i := 41) (by decide +kernel), List.mem_of_getElem? (i := 525) (by decide +kernel), List.mem_of_getElem? (i := 526) (by decide +kernel)⟩
theorem lw_p39 : lw_okq (⟨"ModeCells$Book", "placedCell", "(II)I"⟩, 9) := ⟨⟨by decide +kernel, by decide +kernel⟩, List.mem_of_getElem? (i := 41) (by decide +kernel), List.mem_of_getElem? (i := 529) (by decide +kernel), List.mem_of_getElem? (i := 530) (by decide +kernel)⟩
theorem lw_p40 : lw_okq (⟨"ModeCells$Ways", "measureFrom", "(I)V"⟩, 5) := ⟨⟨by decide +kernel, by decide +kernel⟩, List.mem_of_getElem? (i := 181) (by decide +kernel), List.mem_of_getElem? (i := 537) (by decide +kernel), List.mem_of_getElem? (i := 538) (by decide +kernel)⟩
theorem lw_p41 : lw_okq (⟨"ModeCells$Ways", "enqueue", "(II)V"⟩, 5) := ⟨⟨by decide +kernel, by decide +kernel⟩, List.mem_of_getElem? (i := 181) (by decide +kernel), List.mem_of_getElem? (i := 542) (by decide +kernel), List.mem_of_getElem? (i := 543) (by decide +kernel)⟩
theorem lw_p42 : lw_okq (⟨"ModeCells$Ways", "enqueueSharers", "(II)V"⟩, 5) := ⟨⟨by decide +kernel, by decide +kernel⟩, List.mem_of_getElem? (i := 181) (by decide +kernel), List.mem_of_getElem? (i := 547) (by decide +kernel), List.mem_of_getElem? (i := 548) (by decide +kernel)⟩
theorem lw_p43 : lw_okq (⟨"ModeCells$Ways", "walk", "(II)I"⟩, 5) := ⟨⟨by decide +kernel, by decide +kernel⟩, List.mem_of_getElem? (i := 181) (by decide +kernel), List.mem_of_getElem? (i := 554) (by decide +kernel), List.mem_of_getElem? (i := 555) (by decide +kernel)⟩
theorem lw_p44 : lw_okq (⟨"ModeCells$Ways", "lowestNearer", "(I)I"⟩, 5) := ⟨⟨by decide +kernel, by decide +kernel⟩, List.mem_of_getElem? (i := 181) (by decide +kernel), List.mem_of_getElem? (i := 558) (by decide +kernel), List.mem_of_getElem? (i := 559) (by decide +kernel)⟩
theorem lw_p45 : lw_okq (⟨"ModeCells$Ways", "sharesSome", "(II)Z"⟩, 5) := ⟨⟨by decide +kernel, by decide +kernel⟩, List.mem_of_getElem? (i := 181) (by decide +kernel), List.mem_of_getElem? (i := 563) (by decide +kernel), List.mem_of_getElem? (i := 564) (by decide +kernel)⟩
theorem lw_p46 : lw_okq (⟨"ModeCells$Ways", "mostDistant", "()I"⟩, 5) := ⟨⟨by decide +kernel, by decide +kernel⟩, List.mem_of_getElem? (i := 181) (by decide +kernel), List.mem_of_getElem? (i := 572) (by decide +kernel), List.mem_of_getElem? (i := 573) (by decide +kernel)⟩
theorem lw_p47 : lw_okq (⟨"ModeCells$Parser", "refresh", "()V"⟩, 11) := ⟨⟨by decide +kernel, by decide +kernel⟩, List.mem_of_getElem? (i := 204) (by decide +kernel), List.mem_of_getElem? (i := 580) (by decide +kernel), List.mem_of_getElem? (i := 581) (by decide +kernel)⟩
def lw_privs_3 : List (MethodName × Nat) := [(⟨"ModeCells$Tune", "canShift", "(I)Z"⟩, 3), (⟨"ModeCells$Tune", "shift", "(I)V"⟩, 3), (⟨"ModeCells$Past", "restore", "(LModeCells$Tune;)V"⟩, 3), (⟨"ModeCells$Shelf", "giveTo", "(LModeCells$Tune;I)V"⟩, 2), (⟨"ModeCells$Book", "partsWith", "(II)I"⟩, 9), (⟨"ModeCells$Book", "isIn", "(III)Z"⟩, 9), (⟨"ModeCells$Book", "samePart", "(III)I"⟩, 9), (⟨"ModeCells$Book", "placedCell", "(II)I"⟩, 9), (⟨"ModeCells$Ways", "measureFrom", "(I)V"⟩, 5), (⟨"ModeCells$Ways", "enqueue", "(II)V"⟩, 5), (⟨"ModeCells$Ways", "enqueueSharers", "(II)V"⟩, 5), (⟨"ModeCells$Ways", "walk", "(II)I"⟩, 5), (⟨"ModeCells$Ways", "lowestNearer", "(I)I"⟩, 5), (⟨"ModeCells$Ways", "sharesSome", "(II)Z"⟩, 5), (⟨"ModeCells$Ways", "mostDistant", "()I"⟩, 5), (⟨"ModeCells$Parser", "refresh", "()V"⟩, 11)]
theorem lw_r3 : ∀ q ∈ lw_privs_3, lw_okq q := List.forall_mem_cons.mpr ⟨lw_p32, List.forall_mem_cons.mpr ⟨lw_p33, List.forall_mem_cons.mpr ⟨lw_p34, List.forall_mem_cons.mpr ⟨lw_p35, List.forall_mem_cons.mpr ⟨lw_p36, List.forall_mem_cons.mpr ⟨lw_p37, List.forall_mem_cons.mpr ⟨lw_p38, List.forall_mem_cons.mpr ⟨lw_p39, List.forall_mem_cons.mpr ⟨lw_p40, List.forall_mem_cons.mpr ⟨lw_p41, List.forall_mem_cons.mpr ⟨lw_p42, List.forall_mem_cons.mpr ⟨lw_p43, List.forall_mem_cons.mpr ⟨lw_p44, List.forall_mem_cons.mpr ⟨lw_p45, List.forall_mem_cons.mpr ⟨lw_p46, List.forall_mem_cons.mpr ⟨lw_p47, fun _ h => absurd h List.not_mem_nil⟩⟩⟩⟩⟩⟩⟩⟩⟩⟩⟩⟩⟩⟩⟩⟩
theorem lw_p48 : lw_okq (⟨"ModeCells$Parser", "measureEntries", "(I)V"⟩, 11) := ⟨⟨by decide +kernel, by decide +kernel⟩, List.mem_of_getElem? (i := 204) (by decide +kernel), List.mem_of_getElem? (i := 584) (by decide +kernel), List.mem_of_getElem? (i := 585) (by decide +kernel)⟩
theorem lw_p49 : lw_okq (⟨"ModeCells$Parser", "restAt", "(II)I"⟩, 11) := ⟨⟨by decide +kernel, by decide +kernel⟩, List.mem_of_getElem? (i := 204) (by decide +kernel), List.mem_of_getElem? (i := 596) (by decide +kernel), List.mem_of_getElem? (i := 597) (by decide +kernel)⟩
theorem lw_p50 : lw_okq (⟨"ModeCells$Parser", "measureRests", "(I)V"⟩, 11) := ⟨⟨by decide +kernel, by decide +kernel⟩, List.mem_of_getElem? (i := 204) (by decide +kernel), List.mem_of_getElem? (i := 601) (by decide +kernel), List.mem_of_getElem? (i := 602) (by decide +kernel)⟩
theorem lw_p51 : lw_okq (⟨"ModeCells$Parser", "leastRest", "(III)I"⟩, 11) := ⟨⟨by decide +kernel, by decide +kernel⟩, List.mem_of_getElem? (i := 204) (by decide +kernel), List.mem_of_getElem? (i := 606) (by decide +kernel), List.mem_of_getElem? (i := 607) (by decide +kernel)⟩
theorem lw_p52 : lw_okq (⟨"ModeCells$Parser", "choose", "()V"⟩, 11) := ⟨⟨by decide +kernel, by decide +kernel⟩, List.mem_of_getElem? (i := 204) (by decide +kernel), List.mem_of_getElem? (i := 610) (by decide +kernel), List.mem_of_getElem? (i := 611) (by decide +kernel)⟩
theorem lw_p53 : lw_okq (⟨"ModeCells$Parser", "firstSpot", "()I"⟩, 11) := ⟨⟨by decide +kernel, by decide +kernel⟩, List.mem_of_getElem? (i := 204) (by decide +kernel), List.mem_of_getElem? (i := 614) (by decide +kernel), List.mem_of_getElem? (i := 615) (by decide +kernel)⟩
theorem lw_p54 : lw_okq (⟨"ModeCells$Parser", "nextSpot", "(II)I"⟩, 11) := ⟨⟨by decide +kernel, by decide +kernel⟩, List.mem_of_getElem? (i := 204) (by decide +kernel), List.mem_of_getElem? (i := 618) (by decide +kernel), List.mem_of_getElem? (i := 619) (by decide +kernel)⟩
theorem lw_p55 : lw_okq (⟨"ModeCells$Parser", "changeCost", "(II)I"⟩, 11) := ⟨⟨by decide +kernel, by decide +kernel⟩, List.mem_of_getElem? (i := 204) (by decide +kernel), List.mem_of_getElem? (i := 622) (by decide +kernel), List.mem_of_getElem? (i := 623) (by decide +kernel)⟩
theorem lw_p56 : lw_okq (⟨"ModeCells$Parser", "countChange", "(I)V"⟩, 11) := ⟨⟨by decide +kernel, by decide +kernel⟩, List.mem_of_getElem? (i := 204) (by decide +kernel), List.mem_of_getElem? (i := 633) (by decide +kernel), List.mem_of_getElem? (i := 634) (by decide +kernel)⟩
theorem lw_p57 : lw_okq (⟨"ModeCells$Prefix", "longest", "()I"⟩, 4) := ⟨⟨by decide +kernel, by decide +kernel⟩, List.mem_of_getElem? (i := 210) (by decide +kernel), List.mem_of_getElem? (i := 637) (by decide +kernel), List.mem_of_getElem? (i := 638) (by decide +kernel)⟩
theorem lw_p58 : lw_okq (⟨"ModeCells$Prefix", "findLive", "(I)Z"⟩, 4) := ⟨⟨by decide +kernel, by decide +kernel⟩, List.mem_of_getElem? (i := 210) (by decide +kernel), List.mem_of_getElem? (i := 642) (by decide +kernel), List.mem_of_getElem? (i := 643) (by decide +kernel)⟩
theorem lw_p59 : lw_okq (⟨"ModeCells$Prefix", "markFromLive", "(I)V"⟩, 4) := ⟨⟨by decide +kernel, by decide +kernel⟩, List.mem_of_getElem? (i := 210) (by decide +kernel), List.mem_of_getElem? (i := 650) (by decide +kernel), List.mem_of_getElem? (i := 651) (by decide +kernel)⟩
theorem lw_p60 : lw_okq (⟨"ModeCells", "fitOf", "(I)I"⟩, 10) := ⟨⟨by decide +kernel, by decide +kernel⟩, List.mem_of_getElem? (i := 17) (by decide +kernel), List.mem_of_getElem? (i := 668) (by decide +kernel), List.mem_of_getElem? (i := 669) (by decide +kernel)⟩
theorem lw_p61 : lw_okq (⟨"ModeCells$Seen", "add", "(II)V"⟩, 3) := ⟨⟨by decide +kernel, by decide +kernel⟩, List.mem_of_getElem? (i := 164) (by decide +kernel), List.mem_of_getElem? (i := 681) (by decide +kernel), List.mem_of_getElem? (i := 682) (by decide +kernel)⟩
theorem lw_p62 : lw_okq (⟨"ModeCells$Seen", "agreesWith", "(LModeCells$Book;I)Z"⟩, 3) := ⟨⟨by decide +kernel, by decide +kernel⟩, List.mem_of_getElem? (i := 164) (by decide +kernel), List.mem_of_getElem? (i := 693) (by decide +kernel), List.mem_of_getElem? (i := 694) (by decide +kernel)⟩
theorem lw_p63 : lw_okq (⟨"ModeCells$Shelf", "isKept", "(I)Z"⟩, 2) := ⟨⟨by decide +kernel, by decide +kernel⟩, List.mem_of_getElem? (i := 135) (by decide +kernel), List.mem_of_getElem? (i := 707) (by decide +kernel), List.mem_of_getElem? (i := 708) (by decide +kernel)⟩
def lw_privs_4 : List (MethodName × Nat) := [(⟨"ModeCells$Parser", "measureEntries", "(I)V"⟩, 11), (⟨"ModeCells$Parser", "restAt", "(II)I"⟩, 11), (⟨"ModeCells$Parser", "measureRests", "(I)V"⟩, 11), (⟨"ModeCells$Parser", "leastRest", "(III)I"⟩, 11), (⟨"ModeCells$Parser", "choose", "()V"⟩, 11), (⟨"ModeCells$Parser", "firstSpot", "()I"⟩, 11), (⟨"ModeCells$Parser", "nextSpot", "(II)I"⟩, 11), (⟨"ModeCells$Parser", "changeCost", "(II)I"⟩, 11), (⟨"ModeCells$Parser", "countChange", "(I)V"⟩, 11), (⟨"ModeCells$Prefix", "longest", "()I"⟩, 4), (⟨"ModeCells$Prefix", "findLive", "(I)Z"⟩, 4), (⟨"ModeCells$Prefix", "markFromLive", "(I)V"⟩, 4), (⟨"ModeCells", "fitOf", "(I)I"⟩, 10), (⟨"ModeCells$Seen", "add", "(II)V"⟩, 3), (⟨"ModeCells$Seen", "agreesWith", "(LModeCells$Book;I)Z"⟩, 3), (⟨"ModeCells$Shelf", "isKept", "(I)Z"⟩, 2)]
theorem lw_r4 : ∀ q ∈ lw_privs_4, lw_okq q := List.forall_mem_cons.mpr ⟨lw_p48, List.forall_mem_cons.mpr ⟨lw_p49, List.forall_mem_cons.mpr ⟨lw_p50, List.forall_mem_cons.mpr ⟨lw_p51, List.forall_mem_cons.mpr ⟨lw_p52, List.forall_mem_cons.mpr ⟨lw_p53, List.forall_mem_cons.mpr ⟨lw_p54, List.forall_mem_cons.mpr ⟨lw_p55, List.forall_mem_cons.mpr ⟨lw_p56, List.forall_mem_cons.mpr ⟨lw_p57, List.forall_mem_cons.mpr ⟨lw_p58, List.forall_mem_cons.mpr ⟨lw_p59, List.forall_mem_cons.mpr ⟨lw_p60, List.forall_mem_cons.mpr ⟨lw_p61, List.forall_mem_cons.mpr ⟨lw_p62, List.forall_mem_cons.mpr ⟨lw_p63, fun _ h => absurd h List.not_mem_nil⟩⟩⟩⟩⟩⟩⟩⟩⟩⟩⟩⟩⟩⟩⟩⟩
theorem lw_p64 : lw_okq (⟨"ModeCellsModel", "takes", "()V"⟩, 29) := ⟨⟨by decide +kernel, by decide +kernel⟩, List.mem_of_getElem? (i := 716) (by decide +kernel), List.mem_of_getElem? (i := 825) (by decide +kernel), List.mem_of_getElem? (i := 826) (by decide +kernel)⟩
theorem lw_p65 : lw_okq (⟨"ModeCellsModel", "isFigure", "(I)Z"⟩, 29) := ⟨⟨by decide +kernel, by decide +kernel⟩, List.mem_of_getElem? (i := 716) (by decide +kernel), List.mem_of_getElem? (i := 829) (by decide +kernel), List.mem_of_getElem? (i := 830) (by decide +kernel)⟩
theorem lw_p66 : lw_okq (⟨"ModeCellsModel", "readsCell", "()Z"⟩, 29) := ⟨⟨by decide +kernel, by decide +kernel⟩, List.mem_of_getElem? (i := 716) (by decide +kernel), List.mem_of_getElem? (i := 833) (by decide +kernel), List.mem_of_getElem? (i := 834) (by decide +kernel)⟩
theorem lw_p67 : lw_okq (⟨"ModeCellsModel", "isNumber", "(II)Z"⟩, 29) := ⟨⟨by decide +kernel, by decide +kernel⟩, List.mem_of_getElem? (i := 716) (by decide +kernel), List.mem_of_getElem? (i := 837) (by decide +kernel), List.mem_of_getElem? (i := 838) (by decide +kernel)⟩
theorem lw_p68 : lw_okq (⟨"ModeCellsModel", "readsMode", "()Z"⟩, 29) := ⟨⟨by decide +kernel, by decide +kernel⟩, List.mem_of_getElem? (i := 716) (by decide +kernel), List.mem_of_getElem? (i := 841) (by decide +kernel), List.mem_of_getElem? (i := 842) (by decide +kernel)⟩
theorem lw_p69 : lw_okq (⟨"ModeCellsModel", "becomes", "()V"⟩, 29) := ⟨⟨by decide +kernel, by decide +kernel⟩, List.mem_of_getElem? (i := 716) (by decide +kernel), List.mem_of_getElem? (i := 845) (by decide +kernel), List.mem_of_getElem? (i := 846) (by decide +kernel)⟩
theorem lw_p70 : lw_okq (⟨"ModeCellsModel", "span", "(I)I"⟩, 29) := ⟨⟨by decide +kernel, by decide +kernel⟩, List.mem_of_getElem? (i := 716) (by decide +kernel), List.mem_of_getElem? (i := 849) (by decide +kernel), List.mem_of_getElem? (i := 850) (by decide +kernel)⟩
theorem lw_p71 : lw_okq (⟨"ModeCellsModel", "isScale", "(I)Z"⟩, 29) := ⟨⟨by decide +kernel, by decide +kernel⟩, List.mem_of_getElem? (i := 716) (by decide +kernel), List.mem_of_getElem? (i := 861) (by decide +kernel), List.mem_of_getElem? (i := 862) (by decide +kernel)⟩
theorem lw_p72 : lw_okq (⟨"ModeCellsModel", "parts", "(I)I"⟩, 29) := ⟨⟨by decide +kernel, by decide +kernel⟩, List.mem_of_getElem? (i := 716) (by decide +kernel), List.mem_of_getElem? (i := 865) (by decide +kernel), List.mem_of_getElem? (i := 866) (by decide +kernel)⟩
theorem lw_p73 : lw_okq (⟨"ModeCellsModel", "cellOf", "(II)I"⟩, 29) := ⟨⟨by decide +kernel, by decide +kernel⟩, List.mem_of_getElem? (i := 716) (by decide +kernel), List.mem_of_getElem? (i := 869) (by decide +kernel), List.mem_of_getElem? (i := 870) (by decide +kernel)⟩
theorem lw_p74 : lw_okq (⟨"ModeCellsModel", "pitchOf", "(II)I"⟩, 29) := ⟨⟨by decide +kernel, by decide +kernel⟩, List.mem_of_getElem? (i := 716) (by decide +kernel), List.mem_of_getElem? (i := 873) (by decide +kernel), List.mem_of_getElem? (i := 874) (by decide +kernel)⟩
theorem lw_p75 : lw_okq (⟨"ModeCellsModel", "manyHave", "(II)I"⟩, 29) := ⟨⟨by decide +kernel, by decide +kernel⟩, List.mem_of_getElem? (i := 716) (by decide +kernel), List.mem_of_getElem? (i := 881) (by decide +kernel), List.mem_of_getElem? (i := 882) (by decide +kernel)⟩
theorem lw_p76 : lw_okq (⟨"ModeCellsModel", "isInPart", "(III)Z"⟩, 29) := ⟨⟨by decide +kernel, by decide +kernel⟩, List.mem_of_getElem? (i := 716) (by decide +kernel), List.mem_of_getElem? (i := 885) (by decide +kernel), List.mem_of_getElem? (i := 886) (by decide +kernel)⟩
theorem lw_p77 : lw_okq (⟨"ModeCellsModel", "isIn", "(III)Z"⟩, 29) := ⟨⟨by decide +kernel, by decide +kernel⟩, List.mem_of_getElem? (i := 716) (by decide +kernel), List.mem_of_getElem? (i := 889) (by decide +kernel), List.mem_of_getElem? (i := 890) (by decide +kernel)⟩
theorem lw_p78 : lw_okq (⟨"ModeCellsModel", "sameIn", "(III)I"⟩, 29) := ⟨⟨by decide +kernel, by decide +kernel⟩, List.mem_of_getElem? (i := 716) (by decide +kernel), List.mem_of_getElem? (i := 897) (by decide +kernel), List.mem_of_getElem? (i := 898) (by decide +kernel)⟩
theorem lw_p79 : lw_okq (⟨"ModeCellsModel", "laysFar", "(I)V"⟩, 29) := ⟨⟨by decide +kernel, by decide +kernel⟩, List.mem_of_getElem? (i := 716) (by decide +kernel), List.mem_of_getElem? (i := 905) (by decide +kernel), List.mem_of_getElem? (i := 906) (by decide +kernel)⟩
def lw_privs_5 : List (MethodName × Nat) := [(⟨"ModeCellsModel", "takes", "()V"⟩, 29), (⟨"ModeCellsModel", "isFigure", "(I)Z"⟩, 29), (⟨"ModeCellsModel", "readsCell", "()Z"⟩, 29), (⟨"ModeCellsModel", "isNumber", "(II)Z"⟩, 29), (⟨"ModeCellsModel", "readsMode", "()Z"⟩, 29), (⟨"ModeCellsModel", "becomes", "()V"⟩, 29), (⟨"ModeCellsModel", "span", "(I)I"⟩, 29), (⟨"ModeCellsModel", "isScale", "(I)Z"⟩, 29), (⟨"ModeCellsModel", "parts", "(I)I"⟩, 29), (⟨"ModeCellsModel", "cellOf", "(II)I"⟩, 29), (⟨"ModeCellsModel", "pitchOf", "(II)I"⟩, 29), (⟨"ModeCellsModel", "manyHave", "(II)I"⟩, 29), (⟨"ModeCellsModel", "isInPart", "(III)Z"⟩, 29), (⟨"ModeCellsModel", "isIn", "(III)Z"⟩, 29), (⟨"ModeCellsModel", "sameIn", "(III)I"⟩, 29), (⟨"ModeCellsModel", "laysFar", "(I)V"⟩, 29)]
theorem lw_r5 : ∀ q ∈ lw_privs_5, lw_okq q := List.forall_mem_cons.mpr ⟨lw_p64, List.forall_mem_cons.mpr ⟨lw_p65, List.forall_mem_cons.mpr ⟨lw_p66, List.forall_mem_cons.mpr ⟨lw_p67, List.forall_mem_cons.mpr ⟨lw_p68, List.forall_mem_cons.mpr ⟨lw_p69, List.forall_mem_cons.mpr ⟨lw_p70, List.forall_mem_cons.mpr ⟨lw_p71, List.forall_mem_cons.mpr ⟨lw_p72, List.forall_mem_cons.mpr ⟨lw_p73, List.forall_mem_cons.mpr ⟨lw_p74, List.forall_mem_cons.mpr ⟨lw_p75, List.forall_mem_cons.mpr ⟨lw_p76, List.forall_mem_cons.mpr ⟨lw_p77, List.forall_mem_cons.mpr ⟨lw_p78, List.forall_mem_cons.mpr ⟨lw_p79, fun _ h => absurd h List.not_mem_nil⟩⟩⟩⟩⟩⟩⟩⟩⟩⟩⟩⟩⟩⟩⟩⟩
theorem lw_p80 : lw_okq (⟨"ModeCellsModel", "share", "(II)Z"⟩, 29) := ⟨⟨by decide +kernel, by decide +kernel⟩, List.mem_of_getElem? (i := 716) (by decide +kernel), List.mem_of_getElem? (i := 909) (by decide +kernel), List.mem_of_getElem? (i := 910) (by decide +kernel)⟩
theorem lw_p81 : lw_okq (⟨"ModeCellsModel", "laysCosts", "()I"⟩, 29) := ⟨⟨by decide +kernel, by decide +kernel⟩, List.mem_of_getElem? (i := 716) (by decide +kernel), List.mem_of_getElem? (i := 921) (by decide +kernel), List.mem_of_getElem? (i := 922) (by decide +kernel)⟩
theorem lw_p82 : lw_okq (⟨"ModeCellsModel", "leastFrom", "(III)I"⟩, 29) := ⟨⟨by decide +kernel, by decide +kernel⟩, List.mem_of_getElem? (i := 716) (by decide +kernel), List.mem_of_getElem? (i := 926) (by decide +kernel), List.mem_of_getElem? (i := 927) (by decide +kernel)⟩
theorem lw_p83 : lw_okq (⟨"ModeCellsModel", "laysParse", "(I)V"⟩, 29) := ⟨⟨by decide +kernel, by decide +kernel⟩, List.mem_of_getElem? (i := 716) (by decide +kernel), List.mem_of_getElem? (i := 933) (by decide +kernel), List.mem_of_getElem? (i := 934) (by decide +kernel)⟩
theorem lw_p84 : lw_okq (⟨"ModeCellsModel", "step", "(IIII)I"⟩, 29) := ⟨⟨by decide +kernel, by decide +kernel⟩, List.mem_of_getElem? (i := 716) (by decide +kernel), List.mem_of_getElem? (i := 937) (by decide +kernel), List.mem_of_getElem? (i := 938) (by decide +kernel)⟩
theorem lw_p85 : lw_okq (⟨"ModeCellsModel", "isNote", "(I)Z"⟩, 29) := ⟨⟨by decide +kernel, by decide +kernel⟩, List.mem_of_getElem? (i := 716) (by decide +kernel), List.mem_of_getElem? (i := 945) (by decide +kernel), List.mem_of_getElem? (i := 946) (by decide +kernel)⟩
theorem lw_p86 : lw_okq (⟨"ModeCellsModel", "fitOf", "(I)I"⟩, 29) := ⟨⟨by decide +kernel, by decide +kernel⟩, List.mem_of_getElem? (i := 716) (by decide +kernel), List.mem_of_getElem? (i := 957) (by decide +kernel), List.mem_of_getElem? (i := 958) (by decide +kernel)⟩
theorem lw_p87 : lw_okq (⟨"ModeCellsModel", "remembers", "()V"⟩, 29) := ⟨⟨by decide +kernel, by decide +kernel⟩, List.mem_of_getElem? (i := 716) (by decide +kernel), List.mem_of_getElem? (i := 969) (by decide +kernel), List.mem_of_getElem? (i := 970) (by decide +kernel)⟩
def lw_privs_6 : List (MethodName × Nat) := [(⟨"ModeCellsModel", "share", "(II)Z"⟩, 29), (⟨"ModeCellsModel", "laysCosts", "()I"⟩, 29), (⟨"ModeCellsModel", "leastFrom", "(III)I"⟩, 29), (⟨"ModeCellsModel", "laysParse", "(I)V"⟩, 29), (⟨"ModeCellsModel", "step", "(IIII)I"⟩, 29), (⟨"ModeCellsModel", "isNote", "(I)Z"⟩, 29), (⟨"ModeCellsModel", "fitOf", "(I)I"⟩, 29), (⟨"ModeCellsModel", "remembers", "()V"⟩, 29)]
theorem lw_r6 : ∀ q ∈ lw_privs_6, lw_okq q := List.forall_mem_cons.mpr ⟨lw_p80, List.forall_mem_cons.mpr ⟨lw_p81, List.forall_mem_cons.mpr ⟨lw_p82, List.forall_mem_cons.mpr ⟨lw_p83, List.forall_mem_cons.mpr ⟨lw_p84, List.forall_mem_cons.mpr ⟨lw_p85, List.forall_mem_cons.mpr ⟨lw_p86, List.forall_mem_cons.mpr ⟨lw_p87, fun _ h => absurd h List.not_mem_nil⟩⟩⟩⟩⟩⟩⟩⟩
def lw_privs : List (MethodName × Nat) := lw_privs_1 ++ (lw_privs_2 ++ (lw_privs_3 ++ (lw_privs_4 ++ (lw_privs_5 ++ (lw_privs_6)))))
def lw_tbl : List Cond := k2_sels lw_privs ++ tables_1
theorem lw_privs_ok : ∀ q ∈ lw_privs, lw_okq q := by
  show ∀ q ∈ lw_privs_1 ++ (lw_privs_2 ++ (lw_privs_3 ++ (lw_privs_4 ++ (lw_privs_5 ++ (lw_privs_6))))), lw_okq q
  exact List.forall_mem_append.mpr ⟨lw_r1, List.forall_mem_append.mpr ⟨lw_r2, List.forall_mem_append.mpr ⟨lw_r3, List.forall_mem_append.mpr ⟨lw_r4, List.forall_mem_append.mpr ⟨lw_r5, lw_r6⟩⟩⟩⟩⟩
end
section
/-! the classes of the world: name, fields in the order of their slots, how many -/
/-- the words of the tables that stay: all but which methods are private -/
def gl_np (w : Cond) : Bool := match w with
  | .privateMethod _ => false
  | _ => true
def gl_tb : List Cond := k2_sels lw_privs ++ tables_1.filter gl_np
theorem gl_tb_mem : ∀ w ∈ gl_tb, w ∈ lw_tbl := fun w hw => (List.mem_append.mp hw).elim (fun h => List.mem_append_left _ h) (fun h => List.mem_append_right _ (List.mem_filter.mp h).1)
def gl_T (l : List (String × String × String × Bool)) : u_T := fun k => l.getD k ("", "", "", false)
def gl_Y (l : List FieldType) : Nat → FieldType := fun k => l.getD k .int
def gl_F0 : List (String × String × String × Bool) := [("ModeCells$Book", "cellCount", "I", false), ("ModeCells$Book", "stepCounts", "[I", true), ("ModeCells$Book", "steps", "[I", true), ("ModeCells$Book", "heights", "[I", true), ("ModeCells$Book", "noteBits", "[I", true), ("ModeCells$Book", "modeCount", "I", false), ("ModeCells$Book", "partCounts", "[I", true), ("ModeCells$Book", "partCells", "[I", true), ("ModeCells$Book", "partHeights", "[I", true)]
def gl_D0 : List FieldType := [.int, .array .int, .array .int, .array .int, .array .int, .int, .array .int, .array .int, .array .int]
def gl_F1 : List (String × String × String × Bool) := [("ModeCells$Parser", "book", "LModeCells$Book;", true), ("ModeCells$Parser", "tune", "LModeCells$Tune;", true), ("ModeCells$Parser", "rests", "[I", true), ("ModeCells$Parser", "entries", "[I", true), ("ModeCells$Parser", "prefix", "LModeCells$Prefix;", true), ("ModeCells$Parser", "chosen", "[I", true), ("ModeCells$Parser", "found", "Z", false), ("ModeCells$Parser", "scaleChanges", "I", false), ("ModeCells$Parser", "partChanges", "I", false), ("ModeCells$Parser", "reached", "I", false), ("ModeCells$Parser", "parsedChanges", "I", false)]
def gl_D1 : List FieldType := [.object "ModeCells$Book", .object "ModeCells$Tune", .array .int, .array .int, .object "ModeCells$Prefix", .array .int, .boolean, .int, .int, .int, .int]
def gl_F2 : List (String × String × String × Bool) := [("ModeCells$Past", "shelf", "LModeCells$Shelf;", true), ("ModeCells$Past", "oldest", "I", false), ("ModeCells$Past", "known", "I", false)]
def gl_D2 : List FieldType := [.object "ModeCells$Shelf", .int, .int]
def gl_F3 : List (String × String × String × Bool) := [("ModeCells$Prefix", "book", "LModeCells$Book;", true), ("ModeCells$Prefix", "tune", "LModeCells$Tune;", true), ("ModeCells$Prefix", "live", "[Z", true), ("ModeCells$Prefix", "marks", "[I", true)]
def gl_D3 : List FieldType := [.object "ModeCells$Book", .object "ModeCells$Tune", .array .boolean, .array .int]
def gl_F4 : List (String × String × String × Bool) := [("ModeCells$Reader", "text", "LModeCells$Text;", true), ("ModeCells$Reader", "draft", "LModeCells$Book;", true), ("ModeCells$Reader", "place", "I", false), ("ModeCells$Reader", "fault", "I", false)]
def gl_D4 : List FieldType := [.object "ModeCells$Text", .object "ModeCells$Book", .int, .int]
def gl_F5 : List (String × String × String × Bool) := [("ModeCells$Seen", "notes", "[I", true), ("ModeCells$Seen", "answers", "[I", true), ("ModeCells$Seen", "size", "I", false)]
def gl_D5 : List FieldType := [.array .int, .array .int, .int]
def gl_F6 : List (String × String × String × Bool) := [("ModeCells$Shelf", "sizes", "[I", true), ("ModeCells$Shelf", "notes", "[I", true)]
def gl_D6 : List FieldType := [.array .int, .array .int]
def gl_F7 : List (String × String × String × Bool) := [("ModeCells$Text", "letters", "[I", true), ("ModeCells$Text", "length", "I", false)]
def gl_D7 : List FieldType := [.array .int, .int]
def gl_F8 : List (String × String × String × Bool) := [("ModeCells$Tune", "notes", "[I", true), ("ModeCells$Tune", "size", "I", false), ("ModeCells$Tune", "changes", "I", false)]
def gl_D8 : List FieldType := [.array .int, .int, .int]
def gl_F9 : List (String × String × String × Bool) := [("ModeCells$Ways", "book", "LModeCells$Book;", true), ("ModeCells$Ways", "lengths", "[I", true), ("ModeCells$Ways", "queue", "[I", true), ("ModeCells$Ways", "queued", "I", false), ("ModeCells$Ways", "source", "I", false)]
def gl_D9 : List FieldType := [.object "ModeCells$Book", .array .int, .array .int, .int, .int]
def gl_F10 : List (String × String × String × Bool) := [("ModeCells", "text", "LModeCells$Text;", true), ("ModeCells", "reader", "LModeCells$Reader;", true), ("ModeCells", "book", "LModeCells$Book;", true), ("ModeCells", "draft", "LModeCells$Book;", true), ("ModeCells", "tune", "LModeCells$Tune;", true), ("ModeCells", "past", "LModeCells$Past;", true), ("ModeCells", "images", "LModeCells$Shelf;", true), ("ModeCells", "seen", "LModeCells$Seen;", true), ("ModeCells", "ways", "LModeCells$Ways;", true), ("ModeCells", "parser", "LModeCells$Parser;", true)]
def gl_D10 : List FieldType := [.object "ModeCells$Text", .object "ModeCells$Reader", .object "ModeCells$Book", .object "ModeCells$Book", .object "ModeCells$Tune", .object "ModeCells$Past", .object "ModeCells$Shelf", .object "ModeCells$Seen", .object "ModeCells$Ways", .object "ModeCells$Parser"]
def gl_F11 : List (String × String × String × Bool) := [("ModeCellsModel", "thrown", "I", false), ("ModeCellsModel", "cells", "I", false), ("ModeCellsModel", "modes", "I", false), ("ModeCellsModel", "cell", "[I", true), ("ModeCellsModel", "mode", "[I", true), ("ModeCellsModel", "above", "[I", true), ("ModeCellsModel", "readCells", "I", false), ("ModeCellsModel", "readModes", "I", false), ("ModeCellsModel", "readCell", "[I", true), ("ModeCellsModel", "readMode", "[I", true), ("ModeCellsModel", "s", "[I", true), ("ModeCellsModel", "past", "[I", true), ("ModeCellsModel", "undos", "I", false), ("ModeCellsModel", "kept", "[I", true), ("ModeCellsModel", "isKept", "[Z", true), ("ModeCellsModel", "seen", "I", false), ("ModeCellsModel", "seenNote", "[I", true), ("ModeCellsModel", "seenIs", "[I", true), ("ModeCellsModel", "letters", "I", false), ("ModeCellsModel", "text", "[I", true), ("ModeCellsModel", "next", "I", false), ("ModeCellsModel", "begin", "I", false), ("ModeCellsModel", "token", "I", false), ("ModeCellsModel", "far", "[I", true), ("ModeCellsModel", "row", "[I", true), ("ModeCellsModel", "cost", "[I", true), ("ModeCellsModel", "parse", "[I", true), ("ModeCellsModel", "scaleChanges", "I", false), ("ModeCellsModel", "partChanges", "I", false)]
def gl_D11 : List FieldType := [.int, .int, .int, .array .int, .array .int, .array .int, .int, .int, .array .int, .array .int, .array .int, .array .int, .int, .array .int, .array .boolean, .int, .array .int, .array .int, .int, .array .int, .int, .int, .int, .array .int, .array .int, .array .int, .array .int, .int, .int]
def gl_cls : List vw_C := [("ModeCells$Book", gl_T gl_F0, 9), ("ModeCells$Parser", gl_T gl_F1, 11), ("ModeCells$Past", gl_T gl_F2, 3), ("ModeCells$Prefix", gl_T gl_F3, 4), ("ModeCells$Reader", gl_T gl_F4, 4), ("ModeCells$Seen", gl_T gl_F5, 3), ("ModeCells$Shelf", gl_T gl_F6, 2), ("ModeCells$Text", gl_T gl_F7, 2), ("ModeCells$Tune", gl_T gl_F8, 3), ("ModeCells$Ways", gl_T gl_F9, 5), ("ModeCells", gl_T gl_F10, 10), ("ModeCellsModel", gl_T gl_F11, 29)]
def gl_dts : List (List FieldType) := [gl_D0, gl_D1, gl_D2, gl_D3, gl_D4, gl_D5, gl_D6, gl_D7, gl_D8, gl_D9, gl_D10, gl_D11]
theorem gl_in (big ws : List Cond) (ps : List Nat) (h : ws = ps.filterMap (fun i => big[i]?)) : ∀ w ∈ ws, w ∈ big := by
  intro w hw
  rw [h] at hw
  obtain ⟨i, -, hi⟩ := List.mem_filterMap.mp hw
  exact List.mem_of_getElem? hi
/-- what the tables say of a class of the world -/
def gl_okc (q : vw_C) (ty : Nat → FieldType) : Prop := (∀ w ∈ u_ws q.1 q.2.1 q.2.2, w ∈ gl_tb) ∧ (∀ k, k < q.2.2 → parseFieldDescriptor (q.2.1 k).2.2.1 = some (ty k)) ∧ (∀ a, a < q.2.2 → ∀ b, b < q.2.2 → a ≠ b → (q.2.1 a).2.1 ≠ (q.2.1 b).2.1) ∧ (Cond.instantiable q.1 q.2.2) ∈ gl_tb ∧ (Cond.initialized q.1) ∈ gl_tb ∧ (∀ k, k < q.2.2 → (q.2.1 k).1 = q.1)
theorem gl_okc0 : gl_okc ("ModeCells$Book", gl_T gl_F0, 9) (gl_Y gl_D0) := ⟨gl_in gl_tb (u_ws "ModeCells$Book" (gl_T gl_F0) 9) [152, 154, 156, 158, 160, 162, 164, 166, 168] (by decide +kernel), by decide +kernel, by decide +kernel, List.mem_of_getElem? (i := 129) (by decide +kernel), List.mem_of_getElem? (i := 91) (by decide +kernel), by decide +kernel⟩
theorem gl_okc1 : gl_okc ("ModeCells$Parser", gl_T gl_F1, 11) (gl_Y gl_D1) := ⟨gl_in gl_tb (u_ws "ModeCells$Parser" (gl_T gl_F1) 11) [333, 335, 337, 339, 341, 343, 345, 347, 349, 351, 353] (by decide +kernel), by decide +kernel, by decide +kernel, List.mem_of_getElem? (i := 292) (by decide +kernel), List.mem_of_getElem? (i := 99) (by decide +kernel), by decide +kernel⟩
theorem gl_okc2 : gl_okc ("ModeCells$Past", gl_T gl_F2, 3) (gl_Y gl_D2) := ⟨gl_in gl_tb (u_ws "ModeCells$Past" (gl_T gl_F2) 3) [242, 244, 246] (by decide +kernel), by decide +kernel, by decide +kernel, List.mem_of_getElem? (i := 217) (by decide +kernel), List.mem_of_getElem? (i := 94) (by decide +kernel), by decide +kernel⟩
theorem gl_okc3 : gl_okc ("ModeCells$Prefix", gl_T gl_F3, 4) (gl_Y gl_D3) := ⟨gl_in gl_tb (u_ws "ModeCells$Prefix" (gl_T gl_F3) 4) [307, 309, 311, 313] (by decide +kernel), by decide +kernel, by decide +kernel, List.mem_of_getElem? (i := 298) (by decide +kernel), List.mem_of_getElem? (i := 100) (by decide +kernel), by decide +kernel⟩
theorem gl_okc4 : gl_okc ("ModeCells$Reader", gl_T gl_F4, 4) (gl_Y gl_D4) := ⟨gl_in gl_tb (u_ws "ModeCells$Reader" (gl_T gl_F4) 4) [181, 183, 185, 187] (by decide +kernel), by decide +kernel, by decide +kernel, List.mem_of_getElem? (i := 172) (by decide +kernel), List.mem_of_getElem? (i := 92) (by decide +kernel), by decide +kernel⟩
theorem gl_okc5 : gl_okc ("ModeCells$Seen", gl_T gl_F5, 3) (gl_Y gl_D5) := ⟨gl_in gl_tb (u_ws "ModeCells$Seen" (gl_T gl_F5) 3) [261, 263, 265] (by decide +kernel), by decide +kernel, by decide +kernel, List.mem_of_getElem? (i := 252) (by decide +kernel), List.mem_of_getElem? (i := 97) (by decide +kernel), by decide +kernel⟩
theorem gl_okc6 : gl_okc ("ModeCells$Shelf", gl_T gl_F6, 2) (gl_Y gl_D6) := ⟨gl_in gl_tb (u_ws "ModeCells$Shelf" (gl_T gl_F6) 2) [233, 235] (by decide +kernel), by decide +kernel, by decide +kernel, List.mem_of_getElem? (i := 223) (by decide +kernel), List.mem_of_getElem? (i := 95) (by decide +kernel), by decide +kernel⟩
theorem gl_okc7 : gl_okc ("ModeCells$Text", gl_T gl_F7, 2) (gl_Y gl_D7) := ⟨gl_in gl_tb (u_ws "ModeCells$Text" (gl_T gl_F7) 2) [122, 124] (by decide +kernel), by decide +kernel, by decide +kernel, List.mem_of_getElem? (i := 113) (by decide +kernel), List.mem_of_getElem? (i := 90) (by decide +kernel), by decide +kernel⟩
theorem gl_okc8 : gl_okc ("ModeCells$Tune", gl_T gl_F8, 3) (gl_Y gl_D8) := ⟨gl_in gl_tb (u_ws "ModeCells$Tune" (gl_T gl_F8) 3) [209, 211, 213] (by decide +kernel), by decide +kernel, by decide +kernel, List.mem_of_getElem? (i := 191) (by decide +kernel), List.mem_of_getElem? (i := 93) (by decide +kernel), by decide +kernel⟩
theorem gl_okc9 : gl_okc ("ModeCells$Ways", gl_T gl_F9, 5) (gl_Y gl_D9) := ⟨gl_in gl_tb (u_ws "ModeCells$Ways" (gl_T gl_F9) 5) [280, 282, 284, 286, 288] (by decide +kernel), by decide +kernel, by decide +kernel, List.mem_of_getElem? (i := 269) (by decide +kernel), List.mem_of_getElem? (i := 98) (by decide +kernel), by decide +kernel⟩
theorem gl_okc10 : gl_okc ("ModeCells", gl_T gl_F10, 10) (gl_Y gl_D10) := ⟨gl_in gl_tb (u_ws "ModeCells" (gl_T gl_F10) 10) [366, 368, 370, 372, 374, 376, 378, 380, 382, 384] (by decide +kernel), by decide +kernel, by decide +kernel, List.mem_of_getElem? (i := 105) (by decide +kernel), List.mem_of_getElem? (i := 89) (by decide +kernel), by decide +kernel⟩
theorem gl_okc11 : gl_okc ("ModeCellsModel", gl_T gl_F11, 29) (gl_Y gl_D11) := ⟨gl_in gl_tb (u_ws "ModeCellsModel" (gl_T gl_F11) 29) [774, 776, 778, 780, 782, 784, 786, 788, 790, 792, 794, 796, 798, 800, 802, 804, 806, 808, 810, 812, 814, 816, 818, 820, 822, 824, 826, 828, 830] (by decide +kernel), by decide +kernel, by decide +kernel, List.mem_of_getElem? (i := 740) (by decide +kernel), List.mem_of_getElem? (i := 101) (by decide +kernel), by decide +kernel⟩
end
section
/-! THE PURE WORLD: a heap as a list of cells; a reference is a place in it; '.long' stands for the script, '.float' and '.double' for a local that is not set -/
abbrev gl_E : Type := (Bool × Nat × (Nat → Int32)) ⊕ (Nat × List Value)
abbrev gl_M : Type := MethodName × ByteArray × Nat × Option FieldType × Nat × Nat
def gl_mv (base b : Nat) (v : Value) : Value := match v with
  | .ref i => .ref (base + i)
  | .long _ => .ref b
  | w => w
def gl_e (base b cI cB : Nat) (e : gl_E) : va_E := match e with
  | .inl a => .inl (if a.1 = true then cB else cI, a.2.1, .inl a.2.2)
  | .inr o => .inr (o.1, o.2.map (gl_mv base b))
def gl_ws (base b cI cB : Nat) (h : List gl_E) : va_W := h.mapIdx (fun i e => (base + i, gl_e base b cI cB e))
theorem gl_ws_at {base b cI cB : Nat} {h : List gl_E} {i : Nat} {e : gl_E} (hi : h[i]? = some e) : (gl_ws base b cI cB h)[i]? = some (base + i, gl_e base b cI cB e) := by
  simp [gl_ws, List.getElem?_mapIdx, hi]
theorem gl_ws_back {base b cI cB : Nat} {h : List gl_E} {i : Nat} {q : Nat × va_E} (hi : (gl_ws base b cI cB h)[i]? = some q) : ∃ e, h[i]? = some e ∧ q = (base + i, gl_e base b cI cB e) := by
  simp only [gl_ws, List.getElem?_mapIdx] at hi
  cases hh : h[i]? with
  | none => rw [hh] at hi; cases hi
  | some e => rw [hh] at hi; exact ⟨e, rfl, (Option.some.inj hi).symm⟩
theorem gl_ws_set {base b cI cB : Nat} (h : List gl_E) (i : Nat) (e : gl_E) : (gl_ws base b cI cB h).set i (base + i, gl_e base b cI cB e) = gl_ws base b cI cB (h.set i e) := by
  apply List.ext_getElem?
  intro j
  simp only [gl_ws, List.getElem?_set, List.getElem?_mapIdx, List.length_mapIdx]
  by_cases hj : i = j
  · subst hj
    by_cases hl : i < h.length <;> simp [hl]
  · simp [hj]
theorem gl_ws_app {base b cI cB : Nat} (h : List gl_E) (e : gl_E) : gl_ws base b cI cB (h ++ [e]) = gl_ws base b cI cB h ++ [(base + h.length, gl_e base b cI cB e)] := by
  simp [gl_ws, List.mapIdx_append]
theorem gl_D (base b cI cB : Nat) (h : List gl_E) : va_D (fun q : Nat => base ≤ q) (gl_ws base b cI cB h) := by
  refine ⟨fun i j p q hi hj hpq => ?_, fun k q hk => ?_⟩
  · obtain ⟨e1, -, rfl⟩ := gl_ws_back hi
    obtain ⟨e2, -, rfl⟩ := gl_ws_back hj
    simp only at hpq
    omega
  · obtain ⟨e1, -, rfl⟩ := gl_ws_back hk
    simp
/-- the heap H holds the cells h; where z is true nothing lies behind them -/
def gl_Wd (base b : Nat) (D : va_G) (cI cB : Nat) (z : Bool) (h : List gl_E) (H : Heap) : Prop := va_P D gl_cls (gl_ws base b cI cB h) H ∧ (z = true → H.size = base + h.length)
def gl_tys (cI cB : Nat) : List (ClassId × FieldType) := [(cI, .int), (cB, .boolean)]
def gl_is (v : Value) : Bool := match v with
  | .float _ => false
  | .double _ => false
  | _ => true
def gl_lv (base b : Nat) (ls : List Value) : List (Nat × Value) := (ls.zipIdx.filter (fun q => gl_is q.1)).map (fun q => (q.2, gl_mv base b q.1))
theorem gl_lv_mem {base b : Nat} {ls : List Value} {q : Nat × Value} : q ∈ gl_lv base b ls ↔ ∃ v, ls[q.1]? = some v ∧ gl_is v = true ∧ q.2 = gl_mv base b v := by
  simp only [gl_lv, List.mem_map, List.mem_filter]
  constructor
  · rintro ⟨⟨v, i⟩, ⟨h1, h2⟩, rfl⟩
    exact ⟨v, List.mem_zipIdx_iff_getElem?.mp h1, h2, rfl⟩
  · rintro ⟨v, h1, h2, h3⟩
    exact ⟨(v, q.1), ⟨List.mem_zipIdx_iff_getElem?.mpr h1, h2⟩, by rw [← h3]⟩
theorem gl_cat {base b : Nat} {v : Value} (h : gl_is v = true) : (gl_mv base b v).category = 1 := by
  cases v <;> first | rfl | (simp [gl_is] at h)
def gl_L (base b n : Nat) (ls : List Value) (A : Array Slot) : Prop := lv_has A n (gl_lv base b ls) ∧ ls.length = n
theorem gl_L.get {base b n : Nat} {ls : List Value} {A : Array Slot} (h : gl_L base b n ls A) {i : Nat} {v : Value} (hi : ls[i]? = some v) (hv : gl_is v = true) : A[i]? = some (.val (gl_mv base b v)) :=
  h.1.2.2 (i, gl_mv base b v) (gl_lv_mem.mpr ⟨v, hi, hv, rfl⟩)
theorem gl_L.stored {base b n : Nat} {ls : List Value} {A A' : Array Slot} {i : Nat} {v : Value} (h : gl_L base b n ls A)
    (h' : lv_has A' n ((i, gl_mv base b v) :: (gl_lv base b ls).filter (fun q => !(q.1 == i) && !(q.1 + 1 == i && q.2.category == 2)))) : gl_L base b n (ls.set i v) A' := by
  refine ⟨⟨h'.1, h'.2.1, fun q hq => ?_⟩, by rw [List.length_set]; exact h.2⟩
  obtain ⟨w, h1, h2, h3⟩ := gl_lv_mem.mp hq
  rw [List.getElem?_set] at h1
  by_cases hj : i = q.1
  · rw [if_pos hj] at h1
    split at h1
    · cases h1
      have := h'.2.2 (i, gl_mv base b v) List.mem_cons_self
      rw [h3, ← hj]
      exact this
    · cases h1
  · rw [if_neg hj] at h1
    refine h'.2.2 q (List.mem_cons_of_mem _ (List.mem_filter.mpr ⟨gl_lv_mem.mpr ⟨w, h1, h2, h3⟩, ?_⟩))
    have hc : q.2.category = 1 := by rw [h3]; exact gl_cat h2
    simp [hc, Ne.symm hj]
/-- the world of a script, a method, a state at its start -/
def gl_Cx (sc : Nat × (Nat → Int32)) (Mt : gl_M) (base b : Nat) (D : va_G) (cI cB : Nat) (p : Program) (R : Room) (s : State) (m : MethodId) (args : Array Value) (meth : Method) (c : Code) : Prop :=
  p.tables.exec = Jvm.exec ∧ c.code = Mt.2.1 ∧ meth.sig.returnType = Mt.2.2.2.1 ∧ c.maxLocals = Mt.2.2.1 ∧ s.vm.findClass Mt.1.cls = some m.cls ∧ (∀ w ∈ gl_tb, w.before args s = true) ∧ va_K D gl_cls (gl_tys cI cB) s ∧ va_X b sc.1 sc.2 s s.heap ∧ b < base ∧ base ≤ s.heap.size ∧ (Mt.1.name = "<init>" → meth.name = "<init>") ∧ Mt.2.2.2.2.1 ≤ R.frames ∧ Mt.2.2.2.2.2 ≤ R.locals
/-- at pc stands a return that gives r -/
def gl_rt (Mt : gl_M) (pc : Nat) (r : Option Value) : Prop := (r = none ∧ Mt.2.2.2.1 = none ∧ decode Mt.2.1 pc = .ok (.return_, 1)) ∨ ∃ v : Int32, r = some (.int v) ∧ decode Mt.2.1 pc = .ok (.ireturn, 1) ∧ (Mt.2.2.2.1 = some .int ∨ (Mt.2.2.2.1 = some .boolean ∧ narrow .boolean (.int v) = .int v))
/-- from this place of the method, with these locals, this stack, these cells, k cells and n slots yet to be made: it comes to a return with Q -/
def gl_Ev (l : Launch) (sc : Nat × (Nat → Int32)) (Mt : gl_M) (pc : Nat) (ls st : List Value) (h : List gl_E) (z : Bool) (k n : Nat) (Q : Option Value → List gl_E → Prop) : Prop :=
  ∀ (base b : Nat) (D : va_G) (cI cB : Nat) (p : Program) (e : Env) (R : Room) (s : State) (m : MethodId) (args : Array Value) (below : List Frame) (meth : Method) (c : Code) (H : Heap) (locs : List Loc) (cells slots : Nat) (A : Array Slot) (QW : State → Prop),
    gl_Cx sc Mt base b D cI cB p R s m args meth c → gl_Wd base b D cI cB z h H → va_S (fun q : Nat => base ≤ q) s.heap H locs → cells + k ≤ R.cells → slots + n ≤ R.slots → gl_L base b Mt.2.2.1 ls A →
    (∀ (r : Option Value) (h' : List gl_E) (H' : Heap) (locs' : List Loc) (pc' : Nat) (A' : Array Slot), Q r h' → gl_Wd base b D cI cB z h' H' → va_S (fun q : Nat => base ≤ q) s.heap H' locs' → gl_rt Mt pc' r → W p l e R s m args below meth c H' locs' R.cells R.slots QW (F0 m pc' A' (r.toList.map (gl_mv base b)))) →
    W p l e R s m args below meth c H locs cells slots QW (F0 m pc A (st.map (gl_mv base b)))
end
section
section GLR
variable {l : Launch} {sc : Nat × (Nat → Int32)} {Mt : gl_M} {pc : Nat} {ls st : List Value} {h : List gl_E} {z : Bool} {k n : Nat} {Q : Option Value → List gl_E → Prop}
theorem gl_r_iconst {a : Int} (hd : decode Mt.2.1 pc = .ok (.iconst a, 1)) (K : gl_Ev l sc Mt (pc + 1) ls (.int (Int32.ofInt a) :: st) h z k n Q) : gl_Ev l sc Mt pc ls st h z k n Q := by
  intro base b D cI cB p e R s m args below meth c H locs cells slots A QW C W0 S0 hc hs hL fin
  exact lv_iconst C.1 C.2.1 hd rfl (K base b D cI cB p e R s m args below meth c H locs cells slots A QW C W0 S0 hc hs hL fin)
theorem gl_r_bipush {a : Int} (hd : decode Mt.2.1 pc = .ok (.bipush a, 2)) (K : gl_Ev l sc Mt (pc + 2) ls (.int ((Int8.ofInt a).toInt32) :: st) h z k n Q) : gl_Ev l sc Mt pc ls st h z k n Q := by
  intro base b D cI cB p e R s m args below meth c H locs cells slots A QW C W0 S0 hc hs hL fin
  exact lv_bipush C.1 C.2.1 hd rfl (K base b D cI cB p e R s m args below meth c H locs cells slots A QW C W0 S0 hc hs hL fin)
theorem gl_r_sipush {a : Int} (hd : decode Mt.2.1 pc = .ok (.sipush a, 3)) (K : gl_Ev l sc Mt (pc + 3) ls (.int ((Int16.ofInt a).toInt32) :: st) h z k n Q) : gl_Ev l sc Mt pc ls st h z k n Q := by
  intro base b D cI cB p e R s m args below meth c H locs cells slots A QW C W0 S0 hc hs hL fin
  exact lv_sipush C.1 C.2.1 hd rfl (K base b D cI cB p e R s m args below meth c H locs cells slots A QW C W0 S0 hc hs hL fin)
theorem gl_r_ldc {a : Nat} {v : Int32} (hw : (Cond.constant Mt.1.cls a v) ∈ gl_tb) (hd : decode Mt.2.1 pc = .ok (.ldc a, 2)) (K : gl_Ev l sc Mt (pc + 2) ls (.int v :: st) h z k n Q) : gl_Ev l sc Mt pc ls st h z k n Q := by
  intro base b D cI cB p e R s m args below meth c H locs cells slots A QW C W0 S0 hc hs hL fin
  exact lv_ldc C.1 C.2.1 C.2.2.2.2.1 (C.2.2.2.2.2.1 _ hw) hd (K base b D cI cB p e R s m args below meth c H locs cells slots A QW C W0 S0 hc hs hL fin)
theorem gl_r_iload_n {i : Fin 4} {x : Int32} (hi : ls[(i : Nat)]? = some (.int x)) (hd : decode Mt.2.1 pc = .ok (.iload_n i, 1)) (K : gl_Ev l sc Mt (pc + 1) ls (.int x :: st) h z k n Q) : gl_Ev l sc Mt pc ls st h z k n Q := by
  intro base b D cI cB p e R s m args below meth c H locs cells slots A QW C W0 S0 hc hs hL fin
  exact lv_iload_n C.1 C.2.1 hd rfl (hL.get hi rfl) (K base b D cI cB p e R s m args below meth c H locs cells slots A QW C W0 S0 hc hs hL fin)
theorem gl_r_iload {i : Nat} {x : Int32} (hi : ls[i]? = some (.int x)) (hd : decode Mt.2.1 pc = .ok (.iload i, 2)) (K : gl_Ev l sc Mt (pc + 2) ls (.int x :: st) h z k n Q) : gl_Ev l sc Mt pc ls st h z k n Q := by
  intro base b D cI cB p e R s m args below meth c H locs cells slots A QW C W0 S0 hc hs hL fin
  exact lv_iload C.1 C.2.1 hd (hL.get hi rfl) (K base b D cI cB p e R s m args below meth c H locs cells slots A QW C W0 S0 hc hs hL fin)
theorem gl_r_aload_n {i : Fin 4} {x : Nat} (hi : ls[(i : Nat)]? = some (.ref x)) (hd : decode Mt.2.1 pc = .ok (.aload_n i, 1)) (K : gl_Ev l sc Mt (pc + 1) ls (.ref x :: st) h z k n Q) : gl_Ev l sc Mt pc ls st h z k n Q := by
  intro base b D cI cB p e R s m args below meth c H locs cells slots A QW C W0 S0 hc hs hL fin
  exact lv_aload_n C.1 C.2.1 hd rfl (hL.get hi rfl) (K base b D cI cB p e R s m args below meth c H locs cells slots A QW C W0 S0 hc hs hL fin)
theorem gl_r_sload_n {i : Fin 4} {x : Int64} (hi : ls[(i : Nat)]? = some (.long x)) (hd : decode Mt.2.1 pc = .ok (.aload_n i, 1)) (K : gl_Ev l sc Mt (pc + 1) ls (.long x :: st) h z k n Q) : gl_Ev l sc Mt pc ls st h z k n Q := by
  intro base b D cI cB p e R s m args below meth c H locs cells slots A QW C W0 S0 hc hs hL fin
  exact lv_aload_n C.1 C.2.1 hd rfl (hL.get hi rfl) (K base b D cI cB p e R s m args below meth c H locs cells slots A QW C W0 S0 hc hs hL fin)
theorem gl_r_aload {i : Nat} {x : Nat} (hi : ls[i]? = some (.ref x)) (hd : decode Mt.2.1 pc = .ok (.aload i, 2)) (K : gl_Ev l sc Mt (pc + 2) ls (.ref x :: st) h z k n Q) : gl_Ev l sc Mt pc ls st h z k n Q := by
  intro base b D cI cB p e R s m args below meth c H locs cells slots A QW C W0 S0 hc hs hL fin
  exact lv_aload C.1 C.2.1 hd (hL.get hi rfl) (K base b D cI cB p e R s m args below meth c H locs cells slots A QW C W0 S0 hc hs hL fin)
theorem gl_r_istore_n {i : Fin 4} {x : Int32} (hi : (i : Nat) < ls.length) (hd : decode Mt.2.1 pc = .ok (.istore_n i, 1)) (K : gl_Ev l sc Mt (pc + 1) (ls.set (i : Nat) (.int x)) st h z k n Q) : gl_Ev l sc Mt pc ls (.int x :: st) h z k n Q := by
  intro base b D cI cB p e R s m args below meth c H locs cells slots A QW C W0 S0 hc hs hL fin
  exact lv_istore_n (k := i) (i := (i : Nat)) C.1 C.2.1 hd rfl hL.1 (by rw [← hL.2]; exact hi) rfl (fun A' hA' => K base b D cI cB p e R s m args below meth c H locs cells slots A' QW C W0 S0 hc hs (hL.stored hA') fin)
theorem gl_r_istore {i : Nat} {x : Int32} (hi : i < ls.length) (hd : decode Mt.2.1 pc = .ok (.istore i, 2)) (K : gl_Ev l sc Mt (pc + 2) (ls.set i (.int x)) st h z k n Q) : gl_Ev l sc Mt pc ls (.int x :: st) h z k n Q := by
  intro base b D cI cB p e R s m args below meth c H locs cells slots A QW C W0 S0 hc hs hL fin
  exact lv_istore C.1 C.2.1 hd hL.1 (by rw [← hL.2]; exact hi) rfl (fun A' hA' => K base b D cI cB p e R s m args below meth c H locs cells slots A' QW C W0 S0 hc hs (hL.stored hA') fin)
theorem gl_r_astore_n {i : Fin 4} {x : Nat} (hi : (i : Nat) < ls.length) (hd : decode Mt.2.1 pc = .ok (.astore_n i, 1)) (K : gl_Ev l sc Mt (pc + 1) (ls.set (i : Nat) (.ref x)) st h z k n Q) : gl_Ev l sc Mt pc ls (.ref x :: st) h z k n Q := by
  intro base b D cI cB p e R s m args below meth c H locs cells slots A QW C W0 S0 hc hs hL fin
  exact lv_astore_n (k := i) (i := (i : Nat)) C.1 C.2.1 hd rfl hL.1 (by rw [← hL.2]; exact hi) rfl (fun A' hA' => K base b D cI cB p e R s m args below meth c H locs cells slots A' QW C W0 S0 hc hs (hL.stored (v := .ref x) hA') fin)
theorem gl_r_iinc {i : Nat} {a : Int} {x : Int32} (hi : ls[i]? = some (.int x)) (hd : decode Mt.2.1 pc = .ok (.iinc i a, 3)) (K : gl_Ev l sc Mt (pc + 3) (ls.set i (.int (x + Int32.ofInt a))) st h z k n Q) : gl_Ev l sc Mt pc ls st h z k n Q := by
  intro base b D cI cB p e R s m args below meth c H locs cells slots A QW C W0 S0 hc hs hL fin
  obtain ⟨q, hq⟩ := List.getElem?_of_mem (gl_lv_mem (base := base) (b := b) (ls := ls) (q := (i, .int x)) |>.mpr ⟨.int x, hi, rfl, rfl⟩)
  have hlt : i < ls.length := (List.getElem?_eq_some_iff.mp hi).1
  exact lv_iinc C.1 C.2.1 hd hL.1 hq rfl (by rw [← hL.2]; exact hlt) rfl (fun A' hA' => K base b D cI cB p e R s m args below meth c H locs cells slots A' QW C W0 S0 hc hs (hL.stored hA') fin)
theorem gl_r_iadd {x y : Int32} (hd : decode Mt.2.1 pc = .ok (.iadd, 1)) (K : gl_Ev l sc Mt (pc + 1) ls (.int (x + y) :: st) h z k n Q) : gl_Ev l sc Mt pc ls (.int y :: .int x :: st) h z k n Q := by
  intro base b D cI cB p e R s m args below meth c H locs cells slots A QW C W0 S0 hc hs hL fin
  exact lv_iadd C.1 C.2.1 hd (K base b D cI cB p e R s m args below meth c H locs cells slots A QW C W0 S0 hc hs hL fin)
theorem gl_r_isub {x y : Int32} (hd : decode Mt.2.1 pc = .ok (.isub, 1)) (K : gl_Ev l sc Mt (pc + 1) ls (.int (x - y) :: st) h z k n Q) : gl_Ev l sc Mt pc ls (.int y :: .int x :: st) h z k n Q := by
  intro base b D cI cB p e R s m args below meth c H locs cells slots A QW C W0 S0 hc hs hL fin
  exact lv_isub C.1 C.2.1 hd (K base b D cI cB p e R s m args below meth c H locs cells slots A QW C W0 S0 hc hs hL fin)
theorem gl_r_imul {x y : Int32} (hd : decode Mt.2.1 pc = .ok (.imul, 1)) (K : gl_Ev l sc Mt (pc + 1) ls (.int (x * y) :: st) h z k n Q) : gl_Ev l sc Mt pc ls (.int y :: .int x :: st) h z k n Q := by
  intro base b D cI cB p e R s m args below meth c H locs cells slots A QW C W0 S0 hc hs hL fin
  exact lv_imul C.1 C.2.1 hd (K base b D cI cB p e R s m args below meth c H locs cells slots A QW C W0 S0 hc hs hL fin)
theorem gl_r_iand {x y : Int32} (hd : decode Mt.2.1 pc = .ok (.iand, 1)) (K : gl_Ev l sc Mt (pc + 1) ls (.int (x &&& y) :: st) h z k n Q) : gl_Ev l sc Mt pc ls (.int y :: .int x :: st) h z k n Q := by
  intro base b D cI cB p e R s m args below meth c H locs cells slots A QW C W0 S0 hc hs hL fin
  exact lv_iand C.1 C.2.1 hd (K base b D cI cB p e R s m args below meth c H locs cells slots A QW C W0 S0 hc hs hL fin)
theorem gl_r_ior {x y : Int32} (hd : decode Mt.2.1 pc = .ok (.ior, 1)) (K : gl_Ev l sc Mt (pc + 1) ls (.int (x ||| y) :: st) h z k n Q) : gl_Ev l sc Mt pc ls (.int y :: .int x :: st) h z k n Q := by
  intro base b D cI cB p e R s m args below meth c H locs cells slots A QW C W0 S0 hc hs hL fin
  exact lv_ior C.1 C.2.1 hd (K base b D cI cB p e R s m args below meth c H locs cells slots A QW C W0 S0 hc hs hL fin)
theorem gl_r_ishl {x y : Int32} (hd : decode Mt.2.1 pc = .ok (.ishl, 1)) (K : gl_Ev l sc Mt (pc + 1) ls (.int (x <<< (y &&& 31)) :: st) h z k n Q) : gl_Ev l sc Mt pc ls (.int y :: .int x :: st) h z k n Q := by
  intro base b D cI cB p e R s m args below meth c H locs cells slots A QW C W0 S0 hc hs hL fin
  exact lv_ishl C.1 C.2.1 hd (K base b D cI cB p e R s m args below meth c H locs cells slots A QW C W0 S0 hc hs hL fin)
theorem gl_r_ishr {x y : Int32} (hd : decode Mt.2.1 pc = .ok (.ishr, 1)) (K : gl_Ev l sc Mt (pc + 1) ls (.int (x >>> (y &&& 31)) :: st) h z k n Q) : gl_Ev l sc Mt pc ls (.int y :: .int x :: st) h z k n Q := by
  intro base b D cI cB p e R s m args below meth c H locs cells slots A QW C W0 S0 hc hs hL fin
  exact lv_ishr C.1 C.2.1 hd (K base b D cI cB p e R s m args below meth c H locs cells slots A QW C W0 S0 hc hs hL fin)
theorem gl_r_idiv {x y : Int32} (hy : ¬ y = 0) (hd : decode Mt.2.1 pc = .ok (.idiv, 1)) (K : gl_Ev l sc Mt (pc + 1) ls (.int (x / y) :: st) h z k n Q) : gl_Ev l sc Mt pc ls (.int y :: .int x :: st) h z k n Q := by
  intro base b D cI cB p e R s m args below meth c H locs cells slots A QW C W0 S0 hc hs hL fin
  exact lv_idiv C.1 C.2.1 hd hy (K base b D cI cB p e R s m args below meth c H locs cells slots A QW C W0 S0 hc hs hL fin)
theorem gl_r_irem {x y : Int32} (hy : ¬ y = 0) (hd : decode Mt.2.1 pc = .ok (.irem, 1)) (K : gl_Ev l sc Mt (pc + 1) ls (.int (x - x / y * y) :: st) h z k n Q) : gl_Ev l sc Mt pc ls (.int y :: .int x :: st) h z k n Q := by
  intro base b D cI cB p e R s m args below meth c H locs cells slots A QW C W0 S0 hc hs hL fin
  exact lv_irem C.1 C.2.1 hd hy (K base b D cI cB p e R s m args below meth c H locs cells slots A QW C W0 S0 hc hs hL fin)
theorem gl_r_dup {v : Value} (hv : gl_is v = true) (hd : decode Mt.2.1 pc = .ok (.dup, 1)) (K : gl_Ev l sc Mt (pc + 1) ls (v :: v :: st) h z k n Q) : gl_Ev l sc Mt pc ls (v :: st) h z k n Q := by
  intro base b D cI cB p e R s m args below meth c H locs cells slots A QW C W0 S0 hc hs hL fin
  exact lv_dup C.1 C.2.1 hd (gl_cat hv) (K base b D cI cB p e R s m args below meth c H locs cells slots A QW C W0 S0 hc hs hL fin)
theorem gl_r_pop {v : Value} (hv : gl_is v = true) (hd : decode Mt.2.1 pc = .ok (.pop, 1)) (K : gl_Ev l sc Mt (pc + 1) ls st h z k n Q) : gl_Ev l sc Mt pc ls (v :: st) h z k n Q := by
  intro base b D cI cB p e R s m args below meth c H locs cells slots A QW C W0 S0 hc hs hL fin
  exact lv_pop C.1 C.2.1 hd (gl_cat hv) (K base b D cI cB p e R s m args below meth c H locs cells slots A QW C W0 S0 hc hs hL fin)
theorem gl_r_dup2 {v w : Value} (hv : gl_is v = true) (hw : gl_is w = true) (hd : decode Mt.2.1 pc = .ok (.dup2, 1)) (K : gl_Ev l sc Mt (pc + 1) ls (v :: w :: v :: w :: st) h z k n Q) : gl_Ev l sc Mt pc ls (v :: w :: st) h z k n Q := by
  intro base b D cI cB p e R s m args below meth c H locs cells slots A QW C W0 S0 hc hs hL fin
  exact lv_dup2_11 C.1 C.2.1 hd (gl_cat hv) (gl_cat hw) (K base b D cI cB p e R s m args below meth c H locs cells slots A QW C W0 S0 hc hs hL fin)
theorem gl_r_goto0 (hd : decode Mt.2.1 pc = .ok (.goto 3, 3)) (K : gl_Ev l sc Mt (pc + 3) ls st h z k n Q) : gl_Ev l sc Mt pc ls st h z k n Q := by
  intro base b D cI cB p e R s m args below meth c H locs cells slots A QW C W0 S0 hc hs hL fin
  exact lv_goto C.1 C.2.1 hd (by simp) (K base b D cI cB p e R s m args below meth c H locs cells slots A QW C W0 S0 hc hs hL fin)
theorem gl_r_goto {a : Int} {t : Nat} (ht : (pc : Int) + a = (t : Int)) (hd : decode Mt.2.1 pc = .ok (.goto a, 3)) (K : gl_Ev l sc Mt t ls st h z k n Q) : gl_Ev l sc Mt pc ls st h z k n Q := by
  intro base b D cI cB p e R s m args below meth c H locs cells slots A QW C W0 S0 hc hs hL fin
  exact lv_goto C.1 C.2.1 hd ht (K base b D cI cB p e R s m args below meth c H locs cells slots A QW C W0 S0 hc hs hL fin)
theorem gl_r_icmp_eq {a : Int} {t : Nat} {x y : Int32} (ht : (pc : Int) + a = (t : Int)) (hd : decode Mt.2.1 pc = .ok (.if_icmp .eq a, 3)) (Kt : x = y → gl_Ev l sc Mt t ls st h z k n Q) (Kf : ¬ x = y → gl_Ev l sc Mt (pc + 3) ls st h z k n Q) : gl_Ev l sc Mt pc ls (.int y :: .int x :: st) h z k n Q := by
  intro base b D cI cB p e R s m args below meth c H locs cells slots A QW C W0 S0 hc hs hL fin
  exact lv_icmp_eq C.1 C.2.1 hd ht (fun q => Kt q base b D cI cB p e R s m args below meth c H locs cells slots A QW C W0 S0 hc hs hL fin) (fun q => Kf q base b D cI cB p e R s m args below meth c H locs cells slots A QW C W0 S0 hc hs hL fin)
theorem gl_r_if_eq {a : Int} {t : Nat} {x : Int32} (ht : (pc : Int) + a = (t : Int)) (hd : decode Mt.2.1 pc = .ok (.ifCond .eq a, 3)) (Kt : x = 0 → gl_Ev l sc Mt t ls st h z k n Q) (Kf : ¬ x = 0 → gl_Ev l sc Mt (pc + 3) ls st h z k n Q) : gl_Ev l sc Mt pc ls (.int x :: st) h z k n Q := by
  intro base b D cI cB p e R s m args below meth c H locs cells slots A QW C W0 S0 hc hs hL fin
  exact lv_if_eq C.1 C.2.1 hd ht (fun q => Kt q base b D cI cB p e R s m args below meth c H locs cells slots A QW C W0 S0 hc hs hL fin) (fun q => Kf q base b D cI cB p e R s m args below meth c H locs cells slots A QW C W0 S0 hc hs hL fin)
theorem gl_r_icmp_ne {a : Int} {t : Nat} {x y : Int32} (ht : (pc : Int) + a = (t : Int)) (hd : decode Mt.2.1 pc = .ok (.if_icmp .ne a, 3)) (Kt : ¬ x = y → gl_Ev l sc Mt t ls st h z k n Q) (Kf : x = y → gl_Ev l sc Mt (pc + 3) ls st h z k n Q) : gl_Ev l sc Mt pc ls (.int y :: .int x :: st) h z k n Q := by
  intro base b D cI cB p e R s m args below meth c H locs cells slots A QW C W0 S0 hc hs hL fin
  exact lv_icmp_ne C.1 C.2.1 hd ht (fun q => Kt q base b D cI cB p e R s m args below meth c H locs cells slots A QW C W0 S0 hc hs hL fin) (fun q => Kf q base b D cI cB p e R s m args below meth c H locs cells slots A QW C W0 S0 hc hs hL fin)
theorem gl_r_if_ne {a : Int} {t : Nat} {x : Int32} (ht : (pc : Int) + a = (t : Int)) (hd : decode Mt.2.1 pc = .ok (.ifCond .ne a, 3)) (Kt : ¬ x = 0 → gl_Ev l sc Mt t ls st h z k n Q) (Kf : x = 0 → gl_Ev l sc Mt (pc + 3) ls st h z k n Q) : gl_Ev l sc Mt pc ls (.int x :: st) h z k n Q := by
  intro base b D cI cB p e R s m args below meth c H locs cells slots A QW C W0 S0 hc hs hL fin
  exact lv_if_ne C.1 C.2.1 hd ht (fun q => Kt q base b D cI cB p e R s m args below meth c H locs cells slots A QW C W0 S0 hc hs hL fin) (fun q => Kf q base b D cI cB p e R s m args below meth c H locs cells slots A QW C W0 S0 hc hs hL fin)
theorem gl_r_icmp_lt {a : Int} {t : Nat} {x y : Int32} (ht : (pc : Int) + a = (t : Int)) (hd : decode Mt.2.1 pc = .ok (.if_icmp .lt a, 3)) (Kt : x < y → gl_Ev l sc Mt t ls st h z k n Q) (Kf : ¬ x < y → gl_Ev l sc Mt (pc + 3) ls st h z k n Q) : gl_Ev l sc Mt pc ls (.int y :: .int x :: st) h z k n Q := by
  intro base b D cI cB p e R s m args below meth c H locs cells slots A QW C W0 S0 hc hs hL fin
  exact lv_icmp_lt C.1 C.2.1 hd ht (fun q => Kt q base b D cI cB p e R s m args below meth c H locs cells slots A QW C W0 S0 hc hs hL fin) (fun q => Kf q base b D cI cB p e R s m args below meth c H locs cells slots A QW C W0 S0 hc hs hL fin)
theorem gl_r_if_lt {a : Int} {t : Nat} {x : Int32} (ht : (pc : Int) + a = (t : Int)) (hd : decode Mt.2.1 pc = .ok (.ifCond .lt a, 3)) (Kt : x < 0 → gl_Ev l sc Mt t ls st h z k n Q) (Kf : ¬ x < 0 → gl_Ev l sc Mt (pc + 3) ls st h z k n Q) : gl_Ev l sc Mt pc ls (.int x :: st) h z k n Q := by
  intro base b D cI cB p e R s m args below meth c H locs cells slots A QW C W0 S0 hc hs hL fin
  exact lv_if_lt C.1 C.2.1 hd ht (fun q => Kt q base b D cI cB p e R s m args below meth c H locs cells slots A QW C W0 S0 hc hs hL fin) (fun q => Kf q base b D cI cB p e R s m args below meth c H locs cells slots A QW C W0 S0 hc hs hL fin)
theorem gl_r_icmp_ge {a : Int} {t : Nat} {x y : Int32} (ht : (pc : Int) + a = (t : Int)) (hd : decode Mt.2.1 pc = .ok (.if_icmp .ge a, 3)) (Kt : y ≤ x → gl_Ev l sc Mt t ls st h z k n Q) (Kf : ¬ y ≤ x → gl_Ev l sc Mt (pc + 3) ls st h z k n Q) : gl_Ev l sc Mt pc ls (.int y :: .int x :: st) h z k n Q := by
  intro base b D cI cB p e R s m args below meth c H locs cells slots A QW C W0 S0 hc hs hL fin
  exact lv_icmp_ge C.1 C.2.1 hd ht (fun q => Kt q base b D cI cB p e R s m args below meth c H locs cells slots A QW C W0 S0 hc hs hL fin) (fun q => Kf q base b D cI cB p e R s m args below meth c H locs cells slots A QW C W0 S0 hc hs hL fin)
theorem gl_r_if_ge {a : Int} {t : Nat} {x : Int32} (ht : (pc : Int) + a = (t : Int)) (hd : decode Mt.2.1 pc = .ok (.ifCond .ge a, 3)) (Kt : 0 ≤ x → gl_Ev l sc Mt t ls st h z k n Q) (Kf : ¬ 0 ≤ x → gl_Ev l sc Mt (pc + 3) ls st h z k n Q) : gl_Ev l sc Mt pc ls (.int x :: st) h z k n Q := by
  intro base b D cI cB p e R s m args below meth c H locs cells slots A QW C W0 S0 hc hs hL fin
  exact lv_if_ge C.1 C.2.1 hd ht (fun q => Kt q base b D cI cB p e R s m args below meth c H locs cells slots A QW C W0 S0 hc hs hL fin) (fun q => Kf q base b D cI cB p e R s m args below meth c H locs cells slots A QW C W0 S0 hc hs hL fin)
theorem gl_r_icmp_gt {a : Int} {t : Nat} {x y : Int32} (ht : (pc : Int) + a = (t : Int)) (hd : decode Mt.2.1 pc = .ok (.if_icmp .gt a, 3)) (Kt : y < x → gl_Ev l sc Mt t ls st h z k n Q) (Kf : ¬ y < x → gl_Ev l sc Mt (pc + 3) ls st h z k n Q) : gl_Ev l sc Mt pc ls (.int y :: .int x :: st) h z k n Q := by
  intro base b D cI cB p e R s m args below meth c H locs cells slots A QW C W0 S0 hc hs hL fin
  exact lv_icmp_gt C.1 C.2.1 hd ht (fun q => Kt q base b D cI cB p e R s m args below meth c H locs cells slots A QW C W0 S0 hc hs hL fin) (fun q => Kf q base b D cI cB p e R s m args below meth c H locs cells slots A QW C W0 S0 hc hs hL fin)
theorem gl_r_if_gt {a : Int} {t : Nat} {x : Int32} (ht : (pc : Int) + a = (t : Int)) (hd : decode Mt.2.1 pc = .ok (.ifCond .gt a, 3)) (Kt : 0 < x → gl_Ev l sc Mt t ls st h z k n Q) (Kf : ¬ 0 < x → gl_Ev l sc Mt (pc + 3) ls st h z k n Q) : gl_Ev l sc Mt pc ls (.int x :: st) h z k n Q := by
  intro base b D cI cB p e R s m args below meth c H locs cells slots A QW C W0 S0 hc hs hL fin
  exact lv_if_gt C.1 C.2.1 hd ht (fun q => Kt q base b D cI cB p e R s m args below meth c H locs cells slots A QW C W0 S0 hc hs hL fin) (fun q => Kf q base b D cI cB p e R s m args below meth c H locs cells slots A QW C W0 S0 hc hs hL fin)
theorem gl_r_icmp_le {a : Int} {t : Nat} {x y : Int32} (ht : (pc : Int) + a = (t : Int)) (hd : decode Mt.2.1 pc = .ok (.if_icmp .le a, 3)) (Kt : x ≤ y → gl_Ev l sc Mt t ls st h z k n Q) (Kf : ¬ x ≤ y → gl_Ev l sc Mt (pc + 3) ls st h z k n Q) : gl_Ev l sc Mt pc ls (.int y :: .int x :: st) h z k n Q := by
  intro base b D cI cB p e R s m args below meth c H locs cells slots A QW C W0 S0 hc hs hL fin
  exact lv_icmp_le C.1 C.2.1 hd ht (fun q => Kt q base b D cI cB p e R s m args below meth c H locs cells slots A QW C W0 S0 hc hs hL fin) (fun q => Kf q base b D cI cB p e R s m args below meth c H locs cells slots A QW C W0 S0 hc hs hL fin)
theorem gl_r_if_le {a : Int} {t : Nat} {x : Int32} (ht : (pc : Int) + a = (t : Int)) (hd : decode Mt.2.1 pc = .ok (.ifCond .le a, 3)) (Kt : x ≤ 0 → gl_Ev l sc Mt t ls st h z k n Q) (Kf : ¬ x ≤ 0 → gl_Ev l sc Mt (pc + 3) ls st h z k n Q) : gl_Ev l sc Mt pc ls (.int x :: st) h z k n Q := by
  intro base b D cI cB p e R s m args below meth c H locs cells slots A QW C W0 S0 hc hs hL fin
  exact lv_if_le C.1 C.2.1 hd ht (fun q => Kt q base b D cI cB p e R s m args below meth c H locs cells slots A QW C W0 S0 hc hs hL fin) (fun q => Kf q base b D cI cB p e R s m args below meth c H locs cells slots A QW C W0 S0 hc hs hL fin)
end GLR
end
section
theorem gl_okc_all : ∀ (ci : Nat) (q : vw_C), gl_cls[ci]? = some q → ∃ ty : Nat → FieldType, gl_okc q ty := by
  intro ci q hq
  match ci, hq with
  | 0, hq => cases hq; exact ⟨_, gl_okc0⟩
  | 1, hq => cases hq; exact ⟨_, gl_okc1⟩
  | 2, hq => cases hq; exact ⟨_, gl_okc2⟩
  | 3, hq => cases hq; exact ⟨_, gl_okc3⟩
  | 4, hq => cases hq; exact ⟨_, gl_okc4⟩
  | 5, hq => cases hq; exact ⟨_, gl_okc5⟩
  | 6, hq => cases hq; exact ⟨_, gl_okc6⟩
  | 7, hq => cases hq; exact ⟨_, gl_okc7⟩
  | 8, hq => cases hq; exact ⟨_, gl_okc8⟩
  | 9, hq => cases hq; exact ⟨_, gl_okc9⟩
  | 10, hq => cases hq; exact ⟨_, gl_okc10⟩
  | 11, hq => cases hq; exact ⟨_, gl_okc11⟩
  | k + 12, hq => simp [gl_cls] at hq
section GLS
variable {l : Launch} {sc : Nat × (Nat → Int32)} {Mt : gl_M} {pc : Nat} {ls st : List Value} {h : List gl_E} {z : Bool} {k n : Nat} {Q : Option Value → List gl_E → Prop}
/-- a field's link, plain or to a nest mate -/
def gl_fl (own : String) (idx : Nat) (T : u_T) (j : Nat) : Prop := Cond.fieldLink own idx (T j).1 (T j).2.1 (T j).2.2.1 ∈ gl_tb ∨ Cond.fieldLinkNest own idx (T j).1 (T j).2.1 (T j).2.2.1 "ModeCells" ∈ gl_tb
theorem gl_r_get {o ci j idx : Nat} {q : vw_C} {fs : List Value} {v : Value} (hcl : gl_cls[ci]? = some q) (hj : j < q.2.2) (hw : gl_fl Mt.1.cls idx q.2.1 j) (ho : h[o]? = some (.inr (ci, fs))) (hv : fs[j]? = some v) (hd : decode Mt.2.1 pc = .ok (.getfield idx, 3)) (K : gl_Ev l sc Mt (pc + 3) ls (v :: st) h z k n Q) : gl_Ev l sc Mt pc ls (.ref o :: st) h z k n Q := by
  intro base b D cI cB p e R s m args below meth c H locs cells slots A QW C W0 S0 hc hs hL fin
  obtain ⟨ty, hin, -⟩ := gl_okc_all ci q hcl
  have hv' : (fs.map (gl_mv base b))[j]? = some (gl_mv base b v) := by rw [List.getElem?_map, hv]; rfl
  have K' := K base b D cI cB p e R s m args below meth c H locs cells slots A QW C W0 S0 hc hs hL fin
  rcases hw with hw | hw
  · exact va_get (C := q.1) (T := q.2.1) (N := q.2.2) C.1 C.2.1 C.2.2.2.2.2.1 hin C.2.2.2.2.1 C.2.2.2.2.2.2.1 W0.1 o (gl_ws_at ho) hcl j hj (C.2.2.2.2.2.1 _ hw) (fun _ h9 => h9) hv' hd K'
  · exact va_getN (C := q.1) (T := q.2.1) (N := q.2.2) C.1 C.2.1 C.2.2.2.2.2.1 hin C.2.2.2.2.1 C.2.2.2.2.2.2.1 W0.1 o (gl_ws_at ho) hcl j hj (C.2.2.2.2.2.1 _ hw) (fun _ h9 => h9) hv' hd K'
/-- a value that a field of a type takes -/
def gl_tk (ty : FieldType) (v : Value) : Prop := (ty = .int ∧ ∃ x, v = .int x) ∨ (ty = .boolean ∧ ∃ x : Int32, v = .int x ∧ (x = 0 ∨ x = 1)) ∨ (((∃ c, ty = .object c) ∨ ∃ t, ty = .array t) ∧ ∃ a, v = .ref a)
theorem gl_narrow_b {x : Int32} (h : x = 0 ∨ x = 1) : narrow .boolean (.int x) = .int x := by rcases h with rfl | rfl <;> rfl
theorem gl_tk_ok {base b : Nat} {ty : FieldType} {v : Value} (h : gl_tk ty v) : narrow ty (gl_mv base b v) = gl_mv base b v ∧ fits ty (gl_mv base b v) = true := by
  rcases h with ⟨rfl, x, rfl⟩ | ⟨rfl, x, rfl, hx⟩ | ⟨⟨c, rfl⟩ | ⟨t, rfl⟩, a, rfl⟩
  · exact ⟨rfl, rfl⟩
  · exact ⟨gl_narrow_b hx, by rcases hx with rfl | rfl <;> rfl⟩
  · exact ⟨rfl, rfl⟩
  · exact ⟨rfl, rfl⟩
theorem gl_r_put {o ci j idx : Nat} {q : vw_C} {fs : List Value} {v : Value} (hcl : gl_cls[ci]? = some q) (hj : j < q.2.2) (hw : gl_fl Mt.1.cls idx q.2.1 j) (hfin : (q.2.1 j).2.2.2 = false ∨ (Cond.fieldLink Mt.1.cls idx (q.2.1 j).1 (q.2.1 j).2.1 (q.2.1 j).2.2.1 ∈ gl_tb ∧ Mt.1.name = "<init>" ∧ (q.2.1 j).1 = Mt.1.cls)) (ho : h[o]? = some (.inr (ci, fs))) (hl : j < fs.length)
    (hty : ∀ ty, parseFieldDescriptor (q.2.1 j).2.2.1 = some ty → gl_tk ty v) (hd : decode Mt.2.1 pc = .ok (.putfield idx, 3)) (K : gl_Ev l sc Mt (pc + 3) ls st (h.set o (.inr (ci, fs.set j v))) z k n Q) : gl_Ev l sc Mt pc ls (v :: .ref o :: st) h z k n Q := by
  intro base b D cI cB p e R s m args below meth c H locs cells slots A QW C W0 S0 hc hs hL fin
  obtain ⟨Cn, T, N⟩ := q
  obtain ⟨ty0, hin, hty0, hnm, -⟩ := gl_okc_all ci _ hcl
  dsimp only at hin hty0 hnm hj hw hfin hty
  have hts := C.2.2.2.2.2.1
  have hK := C.2.2.2.2.2.2.1
  have hown := C.2.2.2.2.1
  have hD := gl_D base b cI cB h
  have hap := va_apart (own := Cn) hts hin ty0 hty0 hnm hK hcl
  have he := gl_ws_at (base := base) (b := b) (cI := cI) (cB := cB) ho
  obtain ⟨r, h1, cell, q1, q2, q3, q4⟩ := W0.1 o _ he
  have hr : r = (Cn, T, N) := Option.some.inj (h1.symm.trans hcl)
  subst hr
  obtain ⟨hS, hfc, kC, hkC, hkind⟩ := hK.1 ci _ hcl
  obtain ⟨cf, kf, fi, f, hi, hsl⟩ := hS j hj
  have hst := (u_facts hfc hkC (u_lays hts hin hj) hi).1
  have htk := gl_tk_ok (base := base) (b := b) (hty _ (hty0 j hj))
  have hlay := hts _ (hin _ (u_in_lay hj))
  unfold u_lay at hlay
  have kk : ∀ H' : Heap, H'[base + o]? = some (cell.setSlot f.slot (gl_mv base b v)) → H'.size = H.size → (∀ q, q ≠ base + o → H'[q]? = H[q]?) → W p l e R s m args below meth c H' (locs ++ [⟨base + o, f.slot⟩]) cells slots QW (F0 m (pc + 3) A (st.map (gl_mv base b))) := by
    intro H' e1 e2 e3
    rw [hsl] at e1 ⊢
    have hl' : j < (fs.map (gl_mv base b)).length := by rw [List.length_map]; exact hl
    have hP := W0.1.set hD he (e := .inr (ci, (fs.map (gl_mv base b)).set j (gl_mv base b v))) ⟨_, hcl, t_OB.to (V := updV (vp_V (fs.map (gl_mv base b))) j (gl_mv base b v)) ⟨_, e1, q2, q3, t_set q4 hap hj (gl_mv base b v)⟩ (fun i _ => vp_updV_set hl' (gl_mv base b v) i)⟩ e3
    have hset : (gl_ws base b cI cB h).set o (base + o, .inr (ci, (fs.map (gl_mv base b)).set j (gl_mv base b v))) = gl_ws base b cI cB (h.set o (.inr (ci, fs.set j v))) := by
      rw [← gl_ws_set]
      simp only [gl_e, List.map_set]
    rw [hset] at hP
    exact K base b D cI cB p e R s m args below meth c H' _ cells slots A QW C ⟨hP, fun hz => by rw [e2, List.length_set]; exact W0.2 hz⟩ (S0.put e2 e3 (Nat.le_add_right _ _)) hc hs hL fin
  by_cases hfn : (T j).2.2.2 = true
  · rcases hfin with hfin | ⟨hw1, hn1, hn2⟩
    · rw [hfn] at hfin; cases hfin
    · rw [if_pos hfn] at hlay
      have hcf : m.cls = cf := by
        obtain ⟨_, _, c', _, _, _, -, -, hf', -, -, -, hown2, -⟩ := Cond.laysFinal_spec hlay
        have e1 : c' = cf := by have := hi.symm.trans hf'; simp at this; exact this.1.symm
        rw [hn2] at hown2
        rw [← e1]; exact Option.some.inj (hown.symm.trans hown2)
      have h6 := u_fits hfc hkC hkind (Or.inr hlay) hi (hty0 j hj) htk.1 htk.2
      exact W.putFinK C.1 C.2.1 hown (hts _ hw1) hi hst hcf (C.2.2.2.2.2.2.2.2.2.2.1 hn1) (by rw [q2]; exact h6) q1 q3 (by rw [hsl]; exact k2_hasslot (q4 j hj)) rfl rfl hd kk
  · rw [if_neg hfn] at hlay
    have h6 := u_store hfc hkC hkind hlay hi (hty0 j hj) htk.1 htk.2
    rcases hw with hw | hw
    · exact W.putK C.1 C.2.1 (f := f) ⟨hown, hts _ hw, ⟨_, _, _, hi⟩, hst⟩ (by rw [q2]; exact h6) q1 q3 (by rw [hsl]; exact k2_hasslot (q4 j hj)) rfl rfl hd kk
    · exact va_WputK C.1 C.2.1 hown (hts _ hw) hi hst (by rw [q2]; exact h6) q1 q3 (by rw [hsl]; exact k2_hasslot (q4 j hj)) rfl rfl hd kk
end GLS
end
section
section GLA
variable {l : Launch} {sc : Nat × (Nat → Int32)} {Mt : gl_M} {pc : Nat} {ls st : List Value} {h : List gl_E} {z : Bool} {k n : Nat} {Q : Option Value → List gl_E → Prop}
theorem gl_catsum (base b : Nat) (l : List Value) : ((l.map (gl_mv base b)).map fun v => v.category).sum ≤ 2 * l.length := by
  induction l with
  | nil => simp
  | cons v r ih =>
    have hv : (gl_mv base b v).category ≤ 2 := by rcases lv_cat (gl_mv base b v) with h | h <;> omega
    simp only [List.map_cons, List.sum_cons, List.length_cons]
    omega
theorem gl_r_iald {a nn : Nat} {f : Nat → Int32} {i : Int32} (ha : h[a]? = some (.inl (false, nn, f))) (hi : vp_in i nn) (hd : decode Mt.2.1 pc = .ok (.iaload, 1)) (K : gl_Ev l sc Mt (pc + 1) ls (.int (f i.toNatClampNeg) :: st) h z k n Q) : gl_Ev l sc Mt pc ls (.int i :: .ref a :: st) h z k n Q := by
  intro base b D cI cB p e R s m args below meth c H locs cells slots A QW C W0 S0 hc hs hL fin
  exact va_iald C.1 C.2.1 C.2.2.2.2.2.2.1 W0.1 a 0 (gl_ws_at ha) rfl hi hd (K base b D cI cB p e R s m args below meth c H locs cells slots A QW C W0 S0 hc hs hL fin)
theorem gl_r_zald {a nn : Nat} {f : Nat → Int32} {i : Int32} (ha : h[a]? = some (.inl (true, nn, f))) (hi : vp_in i nn) (hd : decode Mt.2.1 pc = .ok (.baload, 1)) (K : gl_Ev l sc Mt (pc + 1) ls (.int (f i.toNatClampNeg) :: st) h z k n Q) : gl_Ev l sc Mt pc ls (.int i :: .ref a :: st) h z k n Q := by
  intro base b D cI cB p e R s m args below meth c H locs cells slots A QW C W0 S0 hc hs hL fin
  exact va_zald C.1 C.2.1 C.2.2.2.2.2.2.1 W0.1 a 1 (gl_ws_at ha) rfl hi hd (K base b D cI cB p e R s m args below meth c H locs cells slots A QW C W0 S0 hc hs hL fin)
theorem gl_r_sald {t : Int64} {i : Int32} (hi : vp_in i sc.1) (hd : decode Mt.2.1 pc = .ok (.iaload, 1)) (K : gl_Ev l sc Mt (pc + 1) ls (.int (sc.2 i.toNatClampNeg) :: st) h z k n Q) : gl_Ev l sc Mt pc ls (.int i :: .long t :: st) h z k n Q := by
  intro base b D cI cB p e R s m args below meth c H locs cells slots A QW C W0 S0 hc hs hL fin
  exact va_sld C.1 C.2.1 C.2.2.2.2.2.2.2.1 (Nat.lt_of_lt_of_le C.2.2.2.2.2.2.2.2.1 C.2.2.2.2.2.2.2.2.2.1) (Nat.not_le.mpr C.2.2.2.2.2.2.2.2.1) S0 hi hd (K base b D cI cB p e R s m args below meth c H locs cells slots A QW C W0 S0 hc hs hL fin)
theorem gl_r_slen {t : Int64} (hd : decode Mt.2.1 pc = .ok (.arraylength, 1)) (K : gl_Ev l sc Mt (pc + 1) ls (.int (Int32.ofNat sc.1) :: st) h z k n Q) : gl_Ev l sc Mt pc ls (.long t :: st) h z k n Q := by
  intro base b D cI cB p e R s m args below meth c H locs cells slots A QW C W0 S0 hc hs hL fin
  exact va_slen C.1 C.2.1 C.2.2.2.2.2.2.2.1 (Nat.lt_of_lt_of_le C.2.2.2.2.2.2.2.2.1 C.2.2.2.2.2.2.2.2.2.1) (Nat.not_le.mpr C.2.2.2.2.2.2.2.2.1) S0 hd (K base b D cI cB p e R s m args below meth c H locs cells slots A QW C W0 S0 hc hs hL fin)
theorem gl_r_alen {a nn : Nat} {bz : Bool} {f : Nat → Int32} (ha : h[a]? = some (.inl (bz, nn, f))) (hd : decode Mt.2.1 pc = .ok (.arraylength, 1)) (K : gl_Ev l sc Mt (pc + 1) ls (.int (Int32.ofNat nn) :: st) h z k n Q) : gl_Ev l sc Mt pc ls (.ref a :: st) h z k n Q := by
  intro base b D cI cB p e R s m args below meth c H locs cells slots A QW C W0 S0 hc hs hL fin
  have K' := K base b D cI cB p e R s m args below meth c H locs cells slots A QW C W0 S0 hc hs hL fin
  cases bz with
  | false => exact va_alen C.1 C.2.1 C.2.2.2.2.2.2.1 W0.1 a 0 (gl_ws_at ha) rfl rfl hd K'
  | true => exact va_alen C.1 C.2.1 C.2.2.2.2.2.2.1 W0.1 a 1 (gl_ws_at ha) rfl rfl hd K'
theorem gl_r_iast {a nn : Nat} {f : Nat → Int32} {i x : Int32} (ha : h[a]? = some (.inl (false, nn, f))) (hi : vp_in i nn) (hd : decode Mt.2.1 pc = .ok (.iastore, 1)) (K : gl_Ev l sc Mt (pc + 1) ls st (h.set a (.inl (false, nn, upd f i.toNatClampNeg x))) z k n Q) : gl_Ev l sc Mt pc ls (.int x :: .int i :: .ref a :: st) h z k n Q := by
  intro base b D cI cB p e R s m args below meth c H locs cells slots A QW C W0 S0 hc hs hL fin
  have he := gl_ws_at (base := base) (b := b) (cI := cI) (cB := cB) ha
  have hD := gl_D base b cI cB h
  refine W.iast C.1 C.2.1 (W0.1 a _ he) ((C.2.2.2.2.2.2.1.2 0 _ rfl).1 nn (fun j => .int (f j))) (fun q => by cases q) (by show ¬ (i < 0 ∨ (arrV _ _ _).slots.size ≤ _); rw [arrV_size]; exact hi) rfl rfl hd fun H1 e1 z1 oq => ?_
  have hP := W0.1.set hD he (H1 := H1) (e := gl_e base b cI cB (.inl (false, nn, upd f i.toNatClampNeg x))) (by
    show H1[base + a]? = some (vp_cell _ _)
    rw [e1]
    show some ((vp_cell cI (nn, .inl f)).setSlot _ _) = some (vp_cell cI (nn, .inl _))
    rw [vp_cell_i, vp_cell_i, arrV_store]
    congr 2
    funext q
    by_cases hq : q = i.toNatClampNeg
    · subst hq; simp [updV, upd]
    · simp [updV, upd, hq]) oq
  rw [gl_ws_set] at hP
  exact K base b D cI cB p e R s m args below meth c H1 _ cells slots A QW C ⟨hP, fun hz => by rw [z1, List.length_set]; exact W0.2 hz⟩ (S0.put z1 oq (Nat.le_add_right _ _)) hc hs hL fin
theorem gl_r_zast {a nn : Nat} {f : Nat → Int32} {i x : Int32} (hz : z = false) (ha : h[a]? = some (.inl (true, nn, f))) (hi : vp_in i nn) (hd : decode Mt.2.1 pc = .ok (.bastore, 1)) (K : gl_Ev l sc Mt (pc + 1) ls st (h.set a (.inl (true, nn, upd f i.toNatClampNeg (vp_nar .boolean x)))) z k n Q) : gl_Ev l sc Mt pc ls (.int x :: .int i :: .ref a :: st) h z k n Q := by
  intro base b D cI cB p e R s m args below meth c H locs cells slots A QW C W0 S0 hc hs hL fin
  subst hz
  have he := gl_ws_at (base := base) (b := b) (cI := cI) (cB := cB) ha
  refine va_zast C.1 C.2.1 C.2.2.2.2.2.2.1 W0.1 (gl_D base b cI cB h) S0 a 1 he rfl hi hd fun H1 locs1 hP hD hS => ?_
  have hP' : va_P D gl_cls ((gl_ws base b cI cB h).set a (base + a, gl_e base b cI cB (.inl (true, nn, upd f i.toNatClampNeg (vp_nar .boolean x))))) H1 := hP
  rw [gl_ws_set] at hP'
  exact K base b D cI cB p e R s m args below meth c H1 _ cells slots A QW C ⟨hP', fun hz => by cases hz⟩ hS hc hs hL fin
theorem gl_r_copy {a a' nn nn' : Nat} {f g : Nat → Int32} {sp dp cn : Int32} {idx : Nat} (hz : z = false) (hw : Cond.methodLink Mt.1.cls idx arraycopyName ∈ gl_tb) (hn1 : Cond.native arraycopyName ∈ gl_tb) (hn2 : Cond.static arraycopyName ∈ gl_tb) (hn3 : Cond.initialized "java/lang/System" ∈ gl_tb)
    (ha : h[a]? = some (.inl (false, nn, f))) (ha' : h[a']? = some (.inl (false, nn', g))) (h1 : ¬ sp < 0) (h2 : ¬ dp < 0) (h3 : ¬ cn < 0) (h4 : sp.toNatClampNeg + cn.toNatClampNeg ≤ nn) (h5 : dp.toNatClampNeg + cn.toNatClampNeg ≤ nn') (hr1 : 1 ≤ Mt.2.2.2.2.1) (hr2 : 2 * st.length + 18 ≤ Mt.2.2.2.2.2) (hd : decode Mt.2.1 pc = .ok (.invokestatic idx, 3))
    (K : gl_Ev l sc Mt (pc + 3) ls st (h.set a' (.inl (false, nn', va_cpy f g sp.toNatClampNeg dp.toNatClampNeg cn.toNatClampNeg))) z k n Q) : gl_Ev l sc Mt pc ls (.int cn :: .int dp :: .ref a' :: .int sp :: .ref a :: st) h z k n Q := by
  intro base b D cI cB p e R s m args below meth c H locs cells slots A QW C W0 S0 hc hs hL fin
  subst hz
  have hts := C.2.2.2.2.2.1
  have hsum := gl_catsum base b st
  have hR1 := C.2.2.2.2.2.2.2.2.2.2.2.1
  have hR2 := C.2.2.2.2.2.2.2.2.2.2.2.2
  have h7 : nativeFrameWords "java/lang/System" "arraycopy" 5 = 7 := by decide
  refine va_copyi (rest := st.map (gl_mv base b)) C.1 C.2.1 (by rw [C.2.2.2.1]; exact hL.1.1.symm) C.2.2.2.2.1 (hts _ hw) (hts _ hn1) (hts _ hn2) (hts _ hn3) C.2.2.2.2.2.2.1 W0.1 (gl_D base b cI cB h) S0 a a' 0 0 (gl_ws_at ha) (gl_ws_at ha') rfl rfl rfl h1 h2 h3 h4 h5 (fun _ _ => rfl) (Nat.le_trans hr1 hR1) (by rw [h7]; omega) hd fun H1 locs1 hP hD hS => ?_
  have hP' : va_P D gl_cls ((gl_ws base b cI cB h).set a' (base + a', gl_e base b cI cB (.inl (false, nn', va_cpy f g sp.toNatClampNeg dp.toNatClampNeg cn.toNatClampNeg)))) H1 := hP
  rw [gl_ws_set] at hP'
  exact K base b D cI cB p e R s m args below meth c H1 _ cells slots A QW C ⟨hP', fun hz => by cases hz⟩ hS hc hs hL fin
theorem gl_r_min {x y : Int32} {idx : Nat} (hw : Cond.methodLink Mt.1.cls idx Lib.Math.min.name ∈ gl_tb) (hn1 : Cond.static Lib.Math.min.name ∈ gl_tb) (hn2 : Cond.initialized "java/lang/Math" ∈ gl_tb) (hn3 : Cond.code Lib.Math.min.name Lib.Math.min.code 2 (some .int) ∈ gl_tb)
    (hr1 : 1 ≤ Mt.2.2.2.2.1) (hr2 : 2 * st.length + 13 ≤ Mt.2.2.2.2.2) (hd : decode Mt.2.1 pc = .ok (.invokestatic idx, 3)) (K : gl_Ev l sc Mt (pc + 3) ls (.int (if y < x then y else x) :: st) h z k n Q) : gl_Ev l sc Mt pc ls (.int y :: .int x :: st) h z k n Q := by
  intro base b D cI cB p e R s m args below meth c H locs cells slots A QW C W0 S0 hc hs hL fin
  have hts := C.2.2.2.2.2.1
  have hsum := gl_catsum base b st
  have hR1 := C.2.2.2.2.2.2.2.2.2.2.2.1
  have hR2 := C.2.2.2.2.2.2.2.2.2.2.2.2
  exact va_mmin C.1 C.2.1 (by rw [C.2.2.2.1]; exact hL.1.1.symm) C.2.2.2.2.1 (hts _ hw) (hts _ hn1) (hts _ hn2) (hts _ hn3) (Nat.le_trans hr1 hR1) (by omega) (by omega) (by omega) hd (K base b D cI cB p e R s m args below meth c H locs cells slots A QW C W0 S0 hc hs hL fin)
theorem gl_r_obj {a : Nat} {idx : Nat} (hw : Cond.methodLink Mt.1.cls idx Lib.objectInit ∈ gl_tb) (hn1 : Cond.instanceMethod Lib.objectInit ∈ gl_tb) (hn2 : Cond.code Lib.objectInit ⟨#[0xb1]⟩ 1 none ∈ gl_tb)
    (hr1 : 1 ≤ Mt.2.2.2.2.1) (hr2 : 2 * st.length + 12 ≤ Mt.2.2.2.2.2) (hd : decode Mt.2.1 pc = .ok (.invokespecial idx, 3)) (K : gl_Ev l sc Mt (pc + 3) ls st h z k n Q) : gl_Ev l sc Mt pc ls (.ref a :: st) h z k n Q := by
  intro base b D cI cB p e R s m args below meth c H locs cells slots A QW C W0 S0 hc hs hL fin
  have hts := C.2.2.2.2.2.1
  have hsum := gl_catsum base b st
  have hR1 := C.2.2.2.2.2.2.2.2.2.2.2.1
  have hR2 := C.2.2.2.2.2.2.2.2.2.2.2.2
  have h0 : (F0 m pc A ((Value.ref a :: st).map (gl_mv base b))).monitorRoom = 0 := rfl
  exact W.objInit (rest := st.map (gl_mv base b)) C.1 C.2.1 C.2.2.2.2.1 (hts _ hw) (hts _ hn1) (hts _ hn2) rfl (by rw [C.2.2.2.1]; exact hL.1.1) rfl hd (Nat.le_trans hr1 hR1) (by rw [h0]; omega) (K base b D cI cB p e R s m args below meth c H locs cells slots A QW C W0 S0 hc hs hL fin)
theorem gl_Wpush {base b cI cB : Nat} {D : va_G} {h : List gl_E} {H H1 : Heap} (W0 : gl_Wd base b D cI cB true h H) (e : gl_E) (he : va_at D gl_cls (base + h.length, gl_e base b cI cB e) H1) (z1 : H1.size = H.size + 1) (o1 : ∀ q, q < H.size → H1[q]? = H[q]?) : gl_Wd base b D cI cB true (h ++ [e]) H1 := by
  refine ⟨?_, fun _ => by rw [z1, W0.2 rfl, List.length_append]; rfl⟩
  rw [gl_ws_app]
  refine (W0.1.kept (fun j q hq => o1 q.1 ((W0.1 j q hq).lt))).app (fun j q hq => ?_)
  have hj : j < 1 := (List.getElem?_eq_some_iff.mp hq).1
  rw [show j = 0 by omega] at hq
  cases hq
  exact he
theorem gl_r_newi {i : Int32} {N k' n' : Nat} (hw : Cond.arrayClass .int ∈ gl_tb) (hz : z = true) (hi : ¬ i < 0) (hN : i.toNatClampNeg = N) (hN2 : N ≤ 65536) (hk : k' + 1 ≤ k) (hn : n' + N ≤ n) (hd : decode Mt.2.1 pc = .ok (.newarray .int, 2)) (K : gl_Ev l sc Mt (pc + 2) ls (.ref h.length :: st) (h ++ [.inl (false, N, fun _ => 0)]) z k' n' Q) : gl_Ev l sc Mt pc ls (.int i :: st) h z k n Q := by
  intro base b D cI cB p e R s m args below meth c H locs cells slots A QW C W0 S0 hc hs hL fin
  subst hz
  have hts := C.2.2.2.2.2.1
  have hcls : s.vm.findClass ("[" ++ FieldType.int.toString) = some cI := (C.2.2.2.2.2.2.1.2 0 _ rfl).2
  refine va_newaK (atype := .int) C.1 C.2.1 (hts _ hw) rfl hd rfl hi hN (by show N * 4 ≤ _; omega) (by omega) (by omega) (W0.2 rfl) fun H1 cA e1 z1 o1 hAr hNm => ?_
  have hcA : cA = cI := Option.some.inj (hNm.symm.trans hcls)
  subst hcA
  have W1 := gl_Wpush (H1 := H1) W0 (.inl (false, N, fun _ => 0)) (by show H1[base + h.length]? = some (vp_cell _ _); rw [e1]; rfl) (by rw [z1, W0.2 rfl]) (fun q hq => o1 q (by rw [W0.2 rfl] at hq; exact hq))
  exact K base b D cA cB p e R s m args below meth c H1 locs (cells + 1) (slots + N) A QW C W1 ⟨Nat.le_trans S0.1 (by have := W0.2 rfl; omega), fun q q1 q2 => (o1 q (by have := W0.2 rfl; have := S0.1; omega)).trans (S0.2.1 q q1 q2), S0.2.2⟩ (by omega) (by omega) hL fin
theorem gl_r_newz {i : Int32} {N k' n' : Nat} (hw : Cond.arrayClass .boolean ∈ gl_tb) (hz : z = true) (hi : ¬ i < 0) (hN : i.toNatClampNeg = N) (hN2 : N ≤ 65536) (hk : k' + 1 ≤ k) (hn : n' + N ≤ n) (hd : decode Mt.2.1 pc = .ok (.newarray .boolean, 2)) (K : gl_Ev l sc Mt (pc + 2) ls (.ref h.length :: st) (h ++ [.inl (true, N, fun _ => 0)]) z k' n' Q) : gl_Ev l sc Mt pc ls (.int i :: st) h z k n Q := by
  intro base b D cI cB p e R s m args below meth c H locs cells slots A QW C W0 S0 hc hs hL fin
  subst hz
  have hts := C.2.2.2.2.2.1
  have hcls : s.vm.findClass ("[" ++ FieldType.boolean.toString) = some cB := (C.2.2.2.2.2.2.1.2 1 _ rfl).2
  refine va_newaK (atype := .boolean) C.1 C.2.1 (hts _ hw) rfl hd rfl hi hN (by show N * 1 ≤ _; omega) (by omega) (by omega) (W0.2 rfl) fun H1 cA e1 z1 o1 hAr hNm => ?_
  have hcA : cA = cB := Option.some.inj (hNm.symm.trans hcls)
  subst hcA
  have W1 := gl_Wpush (H1 := H1) W0 (.inl (true, N, fun _ => 0)) (by show H1[base + h.length]? = some (vp_cell _ _); rw [e1]; rfl) (by rw [z1, W0.2 rfl]) (fun q hq => o1 q (by rw [W0.2 rfl] at hq; exact hq))
  exact K base b D cI cA p e R s m args below meth c H1 locs (cells + 1) (slots + N) A QW C W1 ⟨Nat.le_trans S0.1 (by have := W0.2 rfl; omega), fun q q1 q2 => (o1 q (by have := W0.2 rfl; have := S0.1; omega)).trans (S0.2.1 q q1 q2), S0.2.2⟩ (by omega) (by omega) hL fin
theorem gl_r_new {ci idx k' n' : Nat} {q : vw_C} {fs : List Value} (hcl : gl_cls[ci]? = some q) (hw : Cond.classLink Mt.1.cls idx q.1 ∈ gl_tb) (hfs : ∀ j ty, j < q.2.2 → parseFieldDescriptor (q.2.1 j).2.2.1 = some ty → fs[j]? = some (defaultValue ty) ∧ ∀ base b, gl_mv base b (defaultValue ty) = defaultValue ty) (hz : z = true) (hk : k' + 1 ≤ k) (hn : n' + q.2.2 ≤ n) (hd : decode Mt.2.1 pc = .ok (.new idx, 3)) (K : gl_Ev l sc Mt (pc + 3) ls (.ref h.length :: st) (h ++ [.inr (ci, fs)]) z k' n' Q) : gl_Ev l sc Mt pc ls st h z k n Q := by
  intro base b D cI cB p e R s m args below meth c H locs cells slots A QW C W0 S0 hc hs hL fin
  subst hz
  obtain ⟨ty0, hin, hty0, hnm, hi1, hi2, -⟩ := gl_okc_all ci _ hcl
  have hts := C.2.2.2.2.2.1
  have hKn := C.2.2.2.2.2.2.1.1 ci _ hcl
  refine W.newcK C.1 C.2.1 C.2.2.2.2.1 (hts _ hw) (hts _ hi1) (hts _ hi2) rfl hd (by omega) (by omega) hKn.2.1 (W0.2 rfl) fun H1 kC hkC e1 z1 o1 => ?_
  have W1 := gl_Wpush (H1 := H1) W0 (.inr (ci, fs)) ⟨_, hcl, (u_born ty0 hts hin hKn hkC e1 hty0).to (fun j hj => by
    obtain ⟨f1, f2⟩ := hfs j _ hj (hty0 j hj)
    simp only [vp_V, List.getD_eq_getElem?_getD, List.getElem?_map, f1, Option.map_some, Option.getD_some]
    exact (f2 base b).symm)⟩ (by rw [z1, W0.2 rfl]) (fun q hq => o1 q (by rw [W0.2 rfl] at hq; exact hq))
  exact K base b D cI cB p e R s m args below meth c H1 locs (cells + 1) (slots + q.2.2) A QW C W1 ⟨Nat.le_trans S0.1 (by have := W0.2 rfl; omega), fun q q1 q2 => (o1 q (by have := W0.2 rfl; have := S0.1; omega)).trans (S0.2.1 q q1 q2), S0.2.2⟩ (by omega) (by omega) hL fin
end GLA
end
section
/-! CONTRACTS: a method, called with these arguments over these cells, returns with Q -/
def gl_Pc (sc : Nat × (Nat → Int32)) (base b : Nat) (D : va_G) (cI cB : Nat) (z : Bool) (av : List Value) (h : List gl_E) : Array Value → State → Prop := fun v U => v = (av.map (gl_mv base b)).toArray ∧ gl_Wd base b D cI cB z h U.heap ∧ va_K D gl_cls (gl_tys cI cB) U ∧ va_X b sc.1 sc.2 U U.heap ∧ b < base ∧ base ≤ U.heap.size
def gl_Qc (base b : Nat) (D : va_G) (cI cB : Nat) (z : Bool) (Q : Option Value → List gl_E → Prop) : Array Value → State → Outcome → State → Prop := fun _ st o t => ∃ (r : Option Value) (h' : List gl_E), o = .returned (r.map (gl_mv base b)) ∧ Q r h' ∧ gl_Wd base b D cI cB z h' t.heap ∧ va_F (fun q : Nat => base ≤ q) st t
def gl_wsM (Mt : gl_M) : List Cond := Cond.code Mt.1 Mt.2.1 Mt.2.2.1 Mt.2.2.2.1 :: gl_tb
def gl_rm (Mt : gl_M) (k n : Nat) : Room := { frames := Mt.2.2.2.2.1, cells := k, slots := n, locals := Mt.2.2.2.2.2 }
def gl_Ret (l : Launch) (sc : Nat × (Nat → Int32)) (Mt : gl_M) (av : List Value) (h : List gl_E) (z : Bool) (k n : Nat) (Q : Option Value → List gl_E → Prop) : Prop :=
  ∀ (base b : Nat) (D : va_G) (cI cB : Nat), Met l Mt.1 (gl_wsM Mt) (gl_rm Mt k n) (gl_Pc sc base b D cI cB z av h) (gl_Qc base b D cI cB z Q) k n (fun q : Nat => base ≤ q)
section GLC
variable {l : Launch} {sc : Nat × (Nat → Int32)} {Mt : gl_M} {pc : Nat} {ls st : List Value} {h : List gl_E} {z : Bool} {k n : Nat} {Q : Option Value → List gl_E → Prop}
theorem gl_args_mem : ∀ (vs : List Value) (i j : Nat) (v : Value), (∀ w ∈ vs, w.category = 1) → vs[j]? = some v → (i + j, v) ∈ lv_args i vs := by
  intro vs
  induction vs with
  | nil => intro i j v _ h; cases h
  | cons w r ih =>
    intro i j v hc h
    have hw : w.category = 1 := hc w List.mem_cons_self
    cases j with
    | zero => cases h; exact List.mem_cons_self
    | succ j =>
      refine List.mem_cons_of_mem _ ?_
      rw [if_neg (by rw [hw]; decide)]
      have := ih (i + 1) j v (fun u hu => hc u (List.mem_cons_of_mem _ hu)) h
      rw [show i + (j + 1) = i + 1 + j by omega]
      exact this
theorem gl_sl_len : ∀ (vs : List Value), (∀ w ∈ vs, w.category = 1) → (lg_sl vs).length = vs.length := by
  intro vs
  induction vs with
  | nil => intro _; rfl
  | cons w r ih =>
    intro hc
    have hw : w.category = 1 := hc w List.mem_cons_self
    have := ih (fun u hu => hc u (List.mem_cons_of_mem _ hu))
    simp only [lg_sl, List.flatMap_cons, List.length_append, List.length_cons]
    rw [if_neg (by rw [hw]; decide)]
    simp only [lg_sl] at this
    rw [this]
    simp
    omega
def gl_en (Mt : gl_M) (av : List Value) : List Value := av ++ List.replicate (Mt.2.2.1 - av.length) (.float 0)
/-- a contract out of the walk of the body -/
theorem gl_meth {av : List Value} (hy : plainName Mt.1.cls = true) (hav : av.length ≤ Mt.2.2.1) (his : ∀ v ∈ av, gl_is v = true) (E : gl_Ev l sc Mt 0 (gl_en Mt av) [] h z k n Q) : gl_Ret l sc Mt av h z k n Q := by
  intro base b D cI cB
  refine Met.ofW (cc := Mt.2.1) (maxL := Mt.2.2.1) (ret := Mt.2.2.2.1) hy rfl ?_
  intro p e s m args below meth c s₁ B hml hv
  obtain ⟨rfl, W0, hK, hX, hbb, hsz⟩ := hv
  have hts0 := atoms_spec (ws := gl_wsM Mt) B.pre
  have hts : ∀ w ∈ gl_tb, w.before (av.map (gl_mv base b)).toArray s = true := fun w hw => hts0 w (List.mem_cons_of_mem _ hw)
  have hown : s.vm.findClass Mt.1.cls = some m.cls := findClass_of_methodNamed B.named
  have hlocks := B.notSynchronized
  have hin : meth.name = Mt.1.name := (name_of_methodNamed B.named B.method).1
  have hcat : ∀ w ∈ av.map (gl_mv base b), w.category = 1 := by
    intro w hw
    obtain ⟨v, hv, rfl⟩ := List.mem_map.mp hw
    exact gl_cat (his v hv)
  have hlen := gl_sl_len _ hcat
  have hl := lv_entry (av.map (gl_mv base b)) (n := Mt.2.2.1) (by rw [hlen, List.length_map]; exact hav)
  rw [lg_entry_eq]
  generalize (lg_sl (av.map (gl_mv base b)) ++ List.replicate (Mt.2.2.1 - (lg_sl (av.map (gl_mv base b))).length) Slot.unset).toArray = A at hl ⊢
  have hL : gl_L base b Mt.2.2.1 (gl_en Mt av) A := by
    refine ⟨⟨hl.1, hl.2.1, fun q hq => hl.2.2 q ?_⟩, by simp [gl_en]; omega⟩
    obtain ⟨v, h1, h2, h3⟩ := gl_lv_mem.mp hq
    by_cases hq1 : q.1 < av.length
    · rw [gl_en, List.getElem?_append_left hq1] at h1
      have := gl_args_mem (av.map (gl_mv base b)) 0 q.1 (gl_mv base b v) hcat (by rw [List.getElem?_map, h1]; rfl)
      rw [Nat.zero_add, ← h3] at this
      exact this
    · rw [gl_en, List.getElem?_append_right (by omega), List.getElem?_replicate] at h1
      split at h1
      · cases h1; cases h2
      · cases h1
  have C : gl_Cx sc Mt base b D cI cB p (gl_rm Mt k n) s m (av.map (gl_mv base b)).toArray meth c := ⟨B.exec, B.bytes, B.returns, hml, hown, hts, hK, hX, hbb, hsz, fun h => hin.trans h, Nat.le_refl _, Nat.le_refl _⟩
  refine E base b D cI cB p e (gl_rm Mt k n) s m _ below meth c s.heap [] 0 0 A _ C W0 va_S.rf (by show 0 + k ≤ k; omega) (by show 0 + n ≤ n; omega) hL ?_
  intro r h' H' locs' pc' A' hQ W1 S1 hrt
  have hb := B.bytes
  have hx := B.exec
  have hr := B.returns
  rcases hrt with ⟨rfl, h2, h3⟩ | ⟨v, rfl, h3, h4⟩
  · exact W.vret hx hb (by rw [hr]; exact h2) (fun t ht hW => ⟨none, h', rfl, hQ, by rw [ht]; exact W1, S1.F ht⟩) S1.2.2 h3
  · rcases h4 with h4 | ⟨h4, h5⟩
    · exact W.iret hx hb (by rw [hr]; exact h4) (fun t ht hW => ⟨some (.int v), h', rfl, hQ, by rw [ht]; exact W1, S1.F ht⟩) S1.2.2 h3
    · exact W.zret hx hb (by rw [hr]; exact h4) h5 (fun t ht hW => ⟨some (.int v), h', rfl, hQ, by rw [ht]; exact W1, S1.F ht⟩) S1.2.2 h3
/-- a return -/
theorem gl_r_ret {r : Option Value} (hrt : gl_rt Mt pc r) (hQ : Q r h) : gl_Ev l sc Mt pc ls r.toList h z k n Q := by
  intro base b D cI cB p e R s m args below meth c H locs cells slots A QW C W0 S0 hc hs hL fin
  exact W.widen (by omega) (by omega) (fin r h H locs pc A hQ W0 S0 hrt)
/-- behind a call -/
theorem gl_after {p : Program} {e : Env} {R : Room} {s : State} {m : MethodId} {args a : Array Value} {below : List Frame} {meth : Method} {c : Code} {H : Heap} {locs : List Loc} {cells slots mc ms base b cI cB : Nat} {D : va_G} {A : Array Slot} {st0 rest : List Value} {QW : State → Prop}
    (hr : va_Run p l e R s m args below meth c H locs cells slots mc ms (F0 m pc A st0) rest (gl_Qc base b D cI cB z Q a) (fun q : Nat => base ≤ q)) (hS : va_S (fun q : Nat => base ≤ q) s.heap H locs)
    (kk : ∀ (r : Option Value) (h' : List gl_E) (H1 : Heap) (locs1 : List Loc), Q r h' → gl_Wd base b D cI cB z h' H1 → va_S (fun q : Nat => base ≤ q) s.heap H1 locs1 → W p l e R s m args below meth c H1 locs1 (cells + mc) (slots + ms) QW (F0 m (pc + 3) A ((r.map (gl_mv base b)).toList ++ rest))) : W p l e R s m args below meth c H locs cells slots QW (F0 m pc A st0) := by
  intro T hT X
  obtain ⟨v, st₀, t, T', L, h0, X', hL, e1, e2, ⟨r, h', hv, hQ, hW, hz, hk⟩, st⟩ := hr T hT X
  cases hv
  rw [h0] at hz hk
  obtain ⟨t2, a1, b1⟩ := kk r h' T'.heap (locs ++ L) hQ (by rw [e1]; exact hW)
    ⟨Nat.le_trans hS.1 (by rw [e1]; exact hz), fun q h1 h2 => by rw [e1, hk q (Nat.lt_of_lt_of_le h1 hS.1) h2]; exact hS.2.1 q h1 h2, fun q hq => by
      rcases List.mem_append.mp hq with h | h
      · exact hS.2.2 q h
      · exact hL q h⟩ T' rfl X'
  exact ⟨t2, st t2 a1, b1⟩
end GLC
/-- all words of the tables are such as stay -/
def gl_nw (w : Cond) : Bool := match w with
  | .fieldLinkNest _ _ _ _ _ _ => true
  | .methodLinkNest _ _ _ _ => true
  | _ => false
def gl_gw (w : Cond) : Bool := gl_nw w || goodWord w
theorem gl_good1 : (k2_sels lw_privs).all gl_gw = true := by decide +kernel
theorem gl_good2 : (tables_1_1.filter gl_np).all gl_gw = true := by decide +kernel
theorem gl_good3 : (tables_1_2.filter gl_np).all gl_gw = true := by decide +kernel
theorem gl_good4 : (tables_1_3.filter gl_np).all gl_gw = true := by decide +kernel
theorem gl_good5 : (tables_1_4.filter gl_np).all gl_gw = true := by decide +kernel
theorem gl_good6 : (tables_1_5.filter gl_np).all gl_gw = true := by decide +kernel
theorem gl_good : gl_tb.all gl_gw = true := by
  simp only [gl_tb, tables_1, List.filter_append, List.all_append, gl_good1, gl_good2, gl_good3, gl_good4, gl_good5, gl_good6, Bool.and_self]
theorem gl_stay1 {w : Cond} (hw : gl_gw w = true) {args : Array Value} {s : State} (h : w.before args s = true) (a' : Array Value) (U : State) (hW : s.WarmedH U.vm) : w.before a' U = true := by
  unfold gl_gw at hw
  rcases (Bool.or_eq_true _ _).mp hw with hw | hw
  · unfold gl_nw at hw
    split at hw
    · exact va_Nw.use rfl (va_Nw.warmF hW (va_Nw.of rfl h))
    · exact va_Nw.use rfl (va_Nw.warmM hW (va_Nw.of rfl h))
    · cases hw
  · exact word_at hW (good_of_word hw) h
theorem gl_stay {args : Array Value} {s : State} (hts : ∀ w ∈ gl_tb, w.before args s = true) {Mt : gl_M} (hm : Cond.code Mt.1 Mt.2.1 Mt.2.2.1 Mt.2.2.2.1 ∈ gl_tb) : ∀ w ∈ gl_wsM Mt, ∀ (a' : Array Value) (U : State), s.WarmedH U.vm → w.before a' U = true := by
  intro w hw a' U hW
  have hm : w ∈ gl_tb := by
    rcases List.mem_cons.mp hw with rfl | h1
    · exact hm
    · exact h1
  exact gl_stay1 (List.all_eq_true.mp gl_good w hm) (hts w hm) a' U hW
theorem gl_blind {sc : Nat × (Nat → Int32)} {base b : Nat} {D : va_G} {cI cB : Nat} {z : Bool} {av : List Value} {h : List gl_E} : FrameBlind (gl_Pc sc base b D cI cB z av h) := by
  intro a U g mk ⟨q0, q1, q2, q3, q4, q5⟩
  exact ⟨q0, q1, va_K.moved (u := U) (U := U.calling g mk a) (Vm.Alike.refl U.vm) q2, va_X.moved (u := U) (U := U.calling g mk a) (Vm.Alike.refl U.vm) q3, q4, q5⟩
/-- the words of a call: of the method called; of the place that calls -/
def gl_mw (M' : gl_M) (np : Nat) : Prop := Cond.code M'.1 M'.2.1 M'.2.2.1 M'.2.2.2.1 ∈ gl_tb ∧ Cond.initialized M'.1.cls ∈ gl_tb ∧ (M'.1.cls ≠ "java/lang/invoke/MethodHandle" ∧ M'.1.cls ≠ "java/lang/invoke/VarHandle") ∧ (parseMethodDescriptor M'.1.desc).map (fun d => d.parameters.length) = some np
def gl_cr (Mt M' : gl_M) : Prop := M'.2.2.2.2.1 + 1 ≤ Mt.2.2.2.2.1 ∧ 8 + (M'.2.2.1 + 11) + M'.2.2.2.2.2 ≤ Mt.2.2.2.2.2
def gl_lk (own : String) (idx : Nat) (y : MethodName) : Prop := Cond.methodLink own idx y ∈ gl_tb ∨ Cond.methodLinkNest own idx y "ModeCells" ∈ gl_tb
theorem gl_mw.par {M' : gl_M} {np : Nat} (h : gl_mw M' np) : ∀ sig, parseMethodDescriptor M'.1.desc = some sig → np = sig.parameters.length := by
  intro sig hs
  have := h.2.2.2
  rw [hs] at this
  exact (Option.some.inj this).symm
section GLK
variable {l : Launch} {sc : Nat × (Nat → Int32)} {Mt M' : gl_M} {pc : Nat} {ls st : List Value} {h : List gl_E} {z : Bool} {k n k1 n1 k2 n2 : Nat} {Q Q' : Option Value → List gl_E → Prop}
theorem gl_pre {sc : Nat × (Nat → Int32)} {base b : Nat} {D : va_G} {cI cB : Nat} {s : State} {p : Program} {R : Room} {m : MethodId} {args : Array Value} {meth : Method} {c : Code} {av : List Value} {H : Heap} {locs : List Loc} (C : gl_Cx sc Mt base b D cI cB p R s m args meth c) (W0 : gl_Wd base b D cI cB z h H) (S0 : va_S (fun q : Nat => base ≤ q) s.heap H locs) : ∀ U : State, U.heap = H → s.WarmedH U.vm → gl_Pc sc base b D cI cB z av h (av.map (gl_mv base b)).toArray U := by
  intro U hU hW
  have hb := C.2.2.2.2.2.2.2.2.1
  have hs := C.2.2.2.2.2.2.2.2.2.1
  refine ⟨rfl, by rw [hU]; exact W0, va_K.moved hW.alike C.2.2.2.2.2.2.1, ?_, hb, by rw [hU]; exact Nat.le_trans hs S0.1⟩
  rw [hU]
  exact va_X.moved hW.alike (va_X.kept C.2.2.2.2.2.2.2.1 (S0.2.1 b (Nat.lt_of_lt_of_le hb hs) (Nat.not_le.mpr hb)))
/-- a call of an instance's method -/
theorem gl_r_vcall {idx o ci : Nat} {q : vw_C} {fs : List Value} {As : List Value} (hM : gl_Ret l sc M' (.ref o :: As) h z k1 n1 Q') (hm : gl_mw M' As.length) (hi : Cond.instanceMethod M'.1 ∈ gl_tb) (hse : Cond.selects M'.1.cls M'.1 M'.1 ∈ gl_tb) (hlk : gl_lk Mt.1.cls idx M'.1) (hcr : gl_cr Mt M') (hcl : gl_cls[ci]? = some q) (hq : q.1 = M'.1.cls) (ho : h[o]? = some (.inr (ci, fs))) (hst : st.length ≤ 4) (hk : k1 + k2 ≤ k) (hn : n1 + n2 ≤ n)
    (hd : decode Mt.2.1 pc = .ok (.invokevirtual idx, 3)) (K : ∀ (r : Option Value) (h' : List gl_E), Q' r h' → gl_Ev l sc Mt (pc + 3) ls (r.toList ++ st) h' z k2 n2 Q) : gl_Ev l sc Mt pc ls (As.reverse ++ .ref o :: st) h z k n Q := by
  intro base b D cI cB p e R s m args below meth c H locs cells slots A QW C W0 S0 hc hs hL fin
  have hts := C.2.2.2.2.2.1
  have hR1 := C.2.2.2.2.2.2.2.2.2.2.2.1
  have hR2 := C.2.2.2.2.2.2.2.2.2.2.2.2
  have hrecv := va_recv C.2.2.2.2.2.2.1 W0.1 hcl (gl_ws_at ho)
  rw [hq] at hrecv
  have hsum := gl_catsum base b st
  have hmap : ((As.reverse ++ Value.ref o :: st).map (gl_mv base b)) = (As.map (gl_mv base b)).reverse ++ Value.ref (base + o) :: st.map (gl_mv base b) := by simp [gl_mv]
  have hpre := gl_pre (av := .ref o :: As) C W0 S0
  have hroom : 2 * (F0 m pc A ((As.reverse ++ Value.ref o :: st).map (gl_mv base b))).monitorRoom + ((st.map (gl_mv base b)).map fun v => v.category).sum ≤ 8 := by
    show 2 * 0 + _ ≤ 8
    omega
  have hrun : va_Run p l e R s m args below meth c H locs cells slots k1 n1 (F0 m pc A ((As.reverse ++ Value.ref o :: st).map (gl_mv base b))) (st.map (gl_mv base b)) (gl_Qc base b D cI cB z Q' (Value.ref (base + o) :: As.map (gl_mv base b)).toArray) (fun q : Nat => base ≤ q) := by
    rcases hlk with hlk | hlk
    · exact va_runV (Ts := gl_tb) (own := Mt.1.cls) (C := M'.1.cls) (bytes := M'.2.1) (maxL := M'.2.2.1) (ret := M'.2.2.2.1) (n := As.length) ⟨C.1, C.2.1, C.2.2.2.1, C.2.2.2.2.1, hts⟩ (hM base b D cI cB)
        ⟨⟨rfl, rfl, Nat.le_trans hcr.1 hR1, Nat.le_trans hcr.2 hR2, gl_stay hts hm.1, List.mem_cons_self, hts _ hm.1, hts _ hm.2.1, hm.2.2.1, hm.par, hts _ hlk⟩, hts _ hi, hts _ hse⟩
        ⟨gl_blind, hrecv, hpre⟩ rfl (by simp) hL.1.1 hmap hroom hd ⟨by omega, by omega⟩
    · exact va_runVN (Ts := gl_tb) (own := Mt.1.cls) (C := M'.1.cls) (host := "ModeCells") (bytes := M'.2.1) (maxL := M'.2.2.1) (ret := M'.2.2.2.1) (n := As.length) ⟨C.1, C.2.1, C.2.2.2.1, C.2.2.2.2.1, hts⟩ (hM base b D cI cB)
        ⟨⟨⟨rfl, rfl, Nat.le_trans hcr.1 hR1, Nat.le_trans hcr.2 hR2, gl_stay hts hm.1, List.mem_cons_self⟩, hts _ hm.1, hts _ hm.2.1, hm.2.2.1, hm.par, hts _ hlk⟩, hts _ hi, hts _ hse⟩
        ⟨gl_blind, hrecv, hpre⟩ rfl (by simp) hL.1.1 hmap hroom hd ⟨by omega, by omega⟩
  refine gl_after hrun S0 fun r h' H1 locs1 hQ W1 S1 => ?_
  have K' := K r h' hQ base b D cI cB p e R s m args below meth c H1 locs1 (cells + k1) (slots + n1) A QW C W1 S1 (by omega) (by omega) hL fin
  have hres : (r.map (gl_mv base b)).toList ++ st.map (gl_mv base b) = (r.toList ++ st).map (gl_mv base b) := by cases r <;> simp
  rw [hres]
  exact K'
/-- a call of a static method -/
theorem gl_r_scall {idx : Nat} {As : List Value} (hM : gl_Ret l sc M' As h z k1 n1 Q') (hm : gl_mw M' As.length) (hi : Cond.static M'.1 ∈ gl_tb) (hlk : gl_lk Mt.1.cls idx M'.1) (hcr : gl_cr Mt M') (hst : st.length ≤ 4) (hk : k1 + k2 ≤ k) (hn : n1 + n2 ≤ n)
    (hd : decode Mt.2.1 pc = .ok (.invokestatic idx, 3)) (K : ∀ (r : Option Value) (h' : List gl_E), Q' r h' → gl_Ev l sc Mt (pc + 3) ls (r.toList ++ st) h' z k2 n2 Q) : gl_Ev l sc Mt pc ls (As.reverse ++ st) h z k n Q := by
  intro base b D cI cB p e R s m args below meth c H locs cells slots A QW C W0 S0 hc hs hL fin
  have hts := C.2.2.2.2.2.1
  have hR1 := C.2.2.2.2.2.2.2.2.2.2.2.1
  have hR2 := C.2.2.2.2.2.2.2.2.2.2.2.2
  have hsum := gl_catsum base b st
  have hmap : ((As.reverse ++ st).map (gl_mv base b)) = (As.map (gl_mv base b)).reverse ++ st.map (gl_mv base b) := by simp
  have hpre := gl_pre (av := As) C W0 S0
  have hroom : 2 * (F0 m pc A ((As.reverse ++ st).map (gl_mv base b))).monitorRoom + ((st.map (gl_mv base b)).map fun v => v.category).sum ≤ 8 := by
    show 2 * 0 + _ ≤ 8
    omega
  have hrun : va_Run p l e R s m args below meth c H locs cells slots k1 n1 (F0 m pc A ((As.reverse ++ st).map (gl_mv base b))) (st.map (gl_mv base b)) (gl_Qc base b D cI cB z Q' (As.map (gl_mv base b)).toArray) (fun q : Nat => base ≤ q) := by
    rcases hlk with hlk | hlk
    · exact va_runS (Ts := gl_tb) (own := Mt.1.cls) (bytes := M'.2.1) (maxL := M'.2.2.1) (ret := M'.2.2.2.1) (n := As.length) ⟨C.1, C.2.1, C.2.2.2.1, C.2.2.2.2.1, hts⟩ (hM base b D cI cB)
        ⟨⟨rfl, rfl, Nat.le_trans hcr.1 hR1, Nat.le_trans hcr.2 hR2, gl_stay hts hm.1, List.mem_cons_self, hts _ hm.1, hts _ hm.2.1, hm.2.2.1, hm.par, hts _ hlk⟩, hts _ hi⟩
        ⟨gl_blind, hpre⟩ rfl (by simp) hL.1.1 hmap hroom hd ⟨by omega, by omega⟩
    · exact va_runSN (Ts := gl_tb) (own := Mt.1.cls) (host := "ModeCells") (bytes := M'.2.1) (maxL := M'.2.2.1) (ret := M'.2.2.2.1) (n := As.length) ⟨C.1, C.2.1, C.2.2.2.1, C.2.2.2.2.1, hts⟩ (hM base b D cI cB)
        ⟨⟨⟨rfl, rfl, Nat.le_trans hcr.1 hR1, Nat.le_trans hcr.2 hR2, gl_stay hts hm.1, List.mem_cons_self⟩, hts _ hm.1, hts _ hm.2.1, hm.2.2.1, hm.par, hts _ hlk⟩, hts _ hi, trivial⟩
        ⟨gl_blind, hpre⟩ rfl (by simp) hL.1.1 hmap hroom hd ⟨by omega, by omega⟩
  refine gl_after hrun S0 fun r h' H1 locs1 hQ W1 S1 => ?_
  have K' := K r h' hQ base b D cI cB p e R s m args below meth c H1 locs1 (cells + k1) (slots + n1) A QW C W1 S1 (by omega) (by omega) hL fin
  have hres : (r.map (gl_mv base b)).toList ++ st.map (gl_mv base b) = (r.toList ++ st).map (gl_mv base b) := by cases r <;> simp
  rw [hres]
  exact K'
/-- a call of a constructor -/
theorem gl_r_icall {idx o : Nat} {As : List Value} (hM : gl_Ret l sc M' (.ref o :: As) h z k1 n1 Q') (hm : gl_mw M' As.length) (hi : Cond.instanceMethod M'.1 ∈ gl_tb) (hnm : M'.1.name = "<init>") (hrt : M'.2.2.2.1 = none) (hlk : gl_lk Mt.1.cls idx M'.1) (hcr : gl_cr Mt M') (hst : st.length ≤ 4) (hk : k1 + k2 ≤ k) (hn : n1 + n2 ≤ n)
    (hd : decode Mt.2.1 pc = .ok (.invokespecial idx, 3)) (K : ∀ (r : Option Value) (h' : List gl_E), Q' r h' → gl_Ev l sc Mt (pc + 3) ls (r.toList ++ st) h' z k2 n2 Q) : gl_Ev l sc Mt pc ls (As.reverse ++ .ref o :: st) h z k n Q := by
  intro base b D cI cB p e R s m args below meth c H locs cells slots A QW C W0 S0 hc hs hL fin
  have hts := C.2.2.2.2.2.1
  have hR1 := C.2.2.2.2.2.2.2.2.2.2.2.1
  have hR2 := C.2.2.2.2.2.2.2.2.2.2.2.2
  have hsum := gl_catsum base b st
  have hmap : ((As.reverse ++ Value.ref o :: st).map (gl_mv base b)) = (As.map (gl_mv base b)).reverse ++ Value.ref (base + o) :: st.map (gl_mv base b) := by simp [gl_mv]
  have hpre := gl_pre (av := .ref o :: As) C W0 S0
  have hcm := hm.1
  rw [hrt] at hcm
  have hin : Cond.code M'.1 M'.2.1 M'.2.2.1 none ∈ gl_wsM M' := List.mem_cons_of_mem _ hcm
  have hroom : 2 * (F0 m pc A ((As.reverse ++ Value.ref o :: st).map (gl_mv base b))).monitorRoom + ((st.map (gl_mv base b)).map fun v => v.category).sum ≤ 8 := by
    show 2 * 0 + _ ≤ 8
    omega
  have hrun : va_Run p l e R s m args below meth c H locs cells slots k1 n1 (F0 m pc A ((As.reverse ++ Value.ref o :: st).map (gl_mv base b))) (st.map (gl_mv base b)) (gl_Qc base b D cI cB z Q' (Value.ref (base + o) :: As.map (gl_mv base b)).toArray) (fun q : Nat => base ≤ q) := by
    rcases hlk with hlk | hlk
    · exact va_runI (Ts := gl_tb) (own := Mt.1.cls) (bytes := M'.2.1) (maxL := M'.2.2.1) (n := As.length) ⟨C.1, C.2.1, C.2.2.2.1, C.2.2.2.2.1, hts⟩ (hM base b D cI cB)
        ⟨⟨rfl, rfl, Nat.le_trans hcr.1 hR1, Nat.le_trans hcr.2 hR2, gl_stay hts hm.1, hin, hts _ hcm, hts _ hm.2.1, hm.2.2.1, hm.par, hts _ hlk⟩, hnm, hts _ hi⟩
        ⟨gl_blind, hpre⟩ rfl (by simp) hL.1.1 hmap hroom hd ⟨by omega, by omega⟩
    · exact va_runIN (Ts := gl_tb) (own := Mt.1.cls) (host := "ModeCells") (bytes := M'.2.1) (maxL := M'.2.2.1) (n := As.length) ⟨C.1, C.2.1, C.2.2.2.1, C.2.2.2.2.1, hts⟩ (hM base b D cI cB)
        ⟨⟨⟨rfl, rfl, Nat.le_trans hcr.1 hR1, Nat.le_trans hcr.2 hR2, gl_stay hts hm.1, hin⟩, hts _ hcm, hts _ hm.2.1, hm.2.2.1, hm.par, hts _ hlk⟩, hnm, hts _ hi⟩
        ⟨gl_blind, hpre⟩ rfl (by simp) hL.1.1 hmap hroom hd ⟨by omega, by omega⟩
  refine gl_after hrun S0 fun r h' H1 locs1 hQ W1 S1 => ?_
  have K' := K r h' hQ base b D cI cB p e R s m args below meth c H1 locs1 (cells + k1) (slots + n1) A QW C W1 S1 (by omega) (by omega) hL fin
  have hres : (r.map (gl_mv base b)).toList ++ st.map (gl_mv base b) = (r.toList ++ st).map (gl_mv base b) := by cases r <;> simp
  rw [hres]
  exact K'
end GLK
end
