section
-- ===== PART A: goes FIRST, ahead of the names: the tables' words, and 'selects' of the private methods out of them =====
/-- a private method of a class that the tables say can be made, by its rows of tables_1 -/
def lw_okq (q : MethodName × Nat) : Prop := (q.1.cls ≠ "java/lang/invoke/MethodHandle" ∧ q.1.cls ≠ "java/lang/invoke/VarHandle") ∧ Cond.instantiable q.1.cls q.2 ∈ tables_1 ∧ Cond.privateMethod q.1 ∈ tables_1 ∧ Cond.instanceMethod q.1 ∈ tables_1
theorem lw_p0 : lw_okq (⟨"ModeCells$Text", "add", "(I)V"⟩, 2) := ⟨⟨by decide +kernel, by decide +kernel⟩, List.mem_of_getElem? (i := 25) (by decide +kernel), List.mem_of_getElem? (i := 307) (by decide +kernel), List.mem_of_getElem? (i := 308) (by decide +kernel)⟩
theorem lw_p1 : lw_okq (⟨"ModeCells$Reader", "read", "()I"⟩, 4) := ⟨⟨by decide +kernel, by decide +kernel⟩, List.mem_of_getElem? (i := 84) (by decide +kernel), List.mem_of_getElem? (i := 319) (by decide +kernel), List.mem_of_getElem? (i := 320) (by decide +kernel)⟩
theorem lw_p2 : lw_okq (⟨"ModeCells$Book", "dropAll", "()V"⟩, 9) := ⟨⟨by decide +kernel, by decide +kernel⟩, List.mem_of_getElem? (i := 41) (by decide +kernel), List.mem_of_getElem? (i := 323) (by decide +kernel), List.mem_of_getElem? (i := 324) (by decide +kernel)⟩
theorem lw_p3 : lw_okq (⟨"ModeCells$Reader", "skipBlanks", "()V"⟩, 4) := ⟨⟨by decide +kernel, by decide +kernel⟩, List.mem_of_getElem? (i := 84) (by decide +kernel), List.mem_of_getElem? (i := 327) (by decide +kernel), List.mem_of_getElem? (i := 328) (by decide +kernel)⟩
theorem lw_p4 : lw_okq (⟨"ModeCells$Text", "letterAt", "(I)I"⟩, 2) := ⟨⟨by decide +kernel, by decide +kernel⟩, List.mem_of_getElem? (i := 25) (by decide +kernel), List.mem_of_getElem? (i := 331) (by decide +kernel), List.mem_of_getElem? (i := 332) (by decide +kernel)⟩
theorem lw_p5 : lw_okq (⟨"ModeCells$Reader", "readItem", "()V"⟩, 4) := ⟨⟨by decide +kernel, by decide +kernel⟩, List.mem_of_getElem? (i := 84) (by decide +kernel), List.mem_of_getElem? (i := 335) (by decide +kernel), List.mem_of_getElem? (i := 336) (by decide +kernel)⟩
theorem lw_p6 : lw_okq (⟨"ModeCells$Reader", "readCell", "()V"⟩, 4) := ⟨⟨by decide +kernel, by decide +kernel⟩, List.mem_of_getElem? (i := 84) (by decide +kernel), List.mem_of_getElem? (i := 339) (by decide +kernel), List.mem_of_getElem? (i := 340) (by decide +kernel)⟩
theorem lw_p7 : lw_okq (⟨"ModeCells$Book", "openCell", "()V"⟩, 9) := ⟨⟨by decide +kernel, by decide +kernel⟩, List.mem_of_getElem? (i := 41) (by decide +kernel), List.mem_of_getElem? (i := 343) (by decide +kernel), List.mem_of_getElem? (i := 344) (by decide +kernel)⟩
theorem lw_p8 : lw_okq (⟨"ModeCells$Reader", "atEnd", "()Z"⟩, 4) := ⟨⟨by decide +kernel, by decide +kernel⟩, List.mem_of_getElem? (i := 84) (by decide +kernel), List.mem_of_getElem? (i := 347) (by decide +kernel), List.mem_of_getElem? (i := 348) (by decide +kernel)⟩
theorem lw_p9 : lw_okq (⟨"ModeCells$Reader", "readNumber", "(II)I"⟩, 4) := ⟨⟨by decide +kernel, by decide +kernel⟩, List.mem_of_getElem? (i := 84) (by decide +kernel), List.mem_of_getElem? (i := 351) (by decide +kernel), List.mem_of_getElem? (i := 352) (by decide +kernel)⟩
theorem lw_p10 : lw_okq (⟨"ModeCells$Book", "addStep", "(I)V"⟩, 9) := ⟨⟨by decide +kernel, by decide +kernel⟩, List.mem_of_getElem? (i := 41) (by decide +kernel), List.mem_of_getElem? (i := 359) (by decide +kernel), List.mem_of_getElem? (i := 360) (by decide +kernel)⟩
theorem lw_p11 : lw_okq (⟨"ModeCells$Reader", "readEnd", "()V"⟩, 4) := ⟨⟨by decide +kernel, by decide +kernel⟩, List.mem_of_getElem? (i := 84) (by decide +kernel), List.mem_of_getElem? (i := 363) (by decide +kernel), List.mem_of_getElem? (i := 364) (by decide +kernel)⟩
theorem lw_p12 : lw_okq (⟨"ModeCells$Reader", "readMode", "()V"⟩, 4) := ⟨⟨by decide +kernel, by decide +kernel⟩, List.mem_of_getElem? (i := 84) (by decide +kernel), List.mem_of_getElem? (i := 367) (by decide +kernel), List.mem_of_getElem? (i := 368) (by decide +kernel)⟩
theorem lw_p13 : lw_okq (⟨"ModeCells$Book", "openMode", "(I)V"⟩, 9) := ⟨⟨by decide +kernel, by decide +kernel⟩, List.mem_of_getElem? (i := 41) (by decide +kernel), List.mem_of_getElem? (i := 371) (by decide +kernel), List.mem_of_getElem? (i := 372) (by decide +kernel)⟩
theorem lw_p14 : lw_okq (⟨"ModeCells$Book", "addPart", "(II)V"⟩, 9) := ⟨⟨by decide +kernel, by decide +kernel⟩, List.mem_of_getElem? (i := 41) (by decide +kernel), List.mem_of_getElem? (i := 375) (by decide +kernel), List.mem_of_getElem? (i := 376) (by decide +kernel)⟩
theorem lw_p15 : lw_okq (⟨"ModeCells$Book", "copyFrom", "(LModeCells$Book;)V"⟩, 9) := ⟨⟨by decide +kernel, by decide +kernel⟩, List.mem_of_getElem? (i := 41) (by decide +kernel), List.mem_of_getElem? (i := 379) (by decide +kernel), List.mem_of_getElem? (i := 380) (by decide +kernel)⟩
def lw_privs_1 : List (MethodName × Nat) := [(⟨"ModeCells$Text", "add", "(I)V"⟩, 2), (⟨"ModeCells$Reader", "read", "()I"⟩, 4), (⟨"ModeCells$Book", "dropAll", "()V"⟩, 9), (⟨"ModeCells$Reader", "skipBlanks", "()V"⟩, 4), (⟨"ModeCells$Text", "letterAt", "(I)I"⟩, 2), (⟨"ModeCells$Reader", "readItem", "()V"⟩, 4), (⟨"ModeCells$Reader", "readCell", "()V"⟩, 4), (⟨"ModeCells$Book", "openCell", "()V"⟩, 9), (⟨"ModeCells$Reader", "atEnd", "()Z"⟩, 4), (⟨"ModeCells$Reader", "readNumber", "(II)I"⟩, 4), (⟨"ModeCells$Book", "addStep", "(I)V"⟩, 9), (⟨"ModeCells$Reader", "readEnd", "()V"⟩, 4), (⟨"ModeCells$Reader", "readMode", "()V"⟩, 4), (⟨"ModeCells$Book", "openMode", "(I)V"⟩, 9), (⟨"ModeCells$Book", "addPart", "(II)V"⟩, 9), (⟨"ModeCells$Book", "copyFrom", "(LModeCells$Book;)V"⟩, 9)]
theorem lw_r1 : ∀ q ∈ lw_privs_1, lw_okq q := List.forall_mem_cons.mpr ⟨lw_p0, List.forall_mem_cons.mpr ⟨lw_p1, List.forall_mem_cons.mpr ⟨lw_p2, List.forall_mem_cons.mpr ⟨lw_p3, List.forall_mem_cons.mpr ⟨lw_p4, List.forall_mem_cons.mpr ⟨lw_p5, List.forall_mem_cons.mpr ⟨lw_p6, List.forall_mem_cons.mpr ⟨lw_p7, List.forall_mem_cons.mpr ⟨lw_p8, List.forall_mem_cons.mpr ⟨lw_p9, List.forall_mem_cons.mpr ⟨lw_p10, List.forall_mem_cons.mpr ⟨lw_p11, List.forall_mem_cons.mpr ⟨lw_p12, List.forall_mem_cons.mpr ⟨lw_p13, List.forall_mem_cons.mpr ⟨lw_p14, List.forall_mem_cons.mpr ⟨lw_p15, fun _ h => absurd h List.not_mem_nil⟩⟩⟩⟩⟩⟩⟩⟩⟩⟩⟩⟩⟩⟩⟩⟩
theorem lw_p16 : lw_okq (⟨"ModeCells$Ways", "dropMeasures", "()V"⟩, 5) := ⟨⟨by decide +kernel, by decide +kernel⟩, List.mem_of_getElem? (i := 181) (by decide +kernel), List.mem_of_getElem? (i := 392) (by decide +kernel), List.mem_of_getElem? (i := 393) (by decide +kernel)⟩
theorem lw_p17 : lw_okq (⟨"ModeCells$Tune", "dropNotes", "()V"⟩, 3) := ⟨⟨by decide +kernel, by decide +kernel⟩, List.mem_of_getElem? (i := 103) (by decide +kernel), List.mem_of_getElem? (i := 396) (by decide +kernel), List.mem_of_getElem? (i := 397) (by decide +kernel)⟩
theorem lw_p18 : lw_okq (⟨"ModeCells$Past", "dropAll", "()V"⟩, 3) := ⟨⟨by decide +kernel, by decide +kernel⟩, List.mem_of_getElem? (i := 129) (by decide +kernel), List.mem_of_getElem? (i := 400) (by decide +kernel), List.mem_of_getElem? (i := 401) (by decide +kernel)⟩
theorem lw_p19 : lw_okq (⟨"ModeCells$Shelf", "dropAll", "()V"⟩, 2) := ⟨⟨by decide +kernel, by decide +kernel⟩, List.mem_of_getElem? (i := 135) (by decide +kernel), List.mem_of_getElem? (i := 404) (by decide +kernel), List.mem_of_getElem? (i := 405) (by decide +kernel)⟩
theorem lw_p20 : lw_okq (⟨"ModeCells$Book", "stepAt", "(II)I"⟩, 9) := ⟨⟨by decide +kernel, by decide +kernel⟩, List.mem_of_getElem? (i := 41) (by decide +kernel), List.mem_of_getElem? (i := 412) (by decide +kernel), List.mem_of_getElem? (i := 413) (by decide +kernel)⟩
theorem lw_p21 : lw_okq (⟨"ModeCells$Book", "isScale", "(I)Z"⟩, 9) := ⟨⟨by decide +kernel, by decide +kernel⟩, List.mem_of_getElem? (i := 41) (by decide +kernel), List.mem_of_getElem? (i := 420) (by decide +kernel), List.mem_of_getElem? (i := 421) (by decide +kernel)⟩
theorem lw_p22 : lw_okq (⟨"ModeCells$Book", "scaleCount", "()I"⟩, 9) := ⟨⟨by decide +kernel, by decide +kernel⟩, List.mem_of_getElem? (i := 41) (by decide +kernel), List.mem_of_getElem? (i := 424) (by decide +kernel), List.mem_of_getElem? (i := 425) (by decide +kernel)⟩
theorem lw_p23 : lw_okq (⟨"ModeCells$Book", "partsOf", "(I)I"⟩, 9) := ⟨⟨by decide +kernel, by decide +kernel⟩, List.mem_of_getElem? (i := 41) (by decide +kernel), List.mem_of_getElem? (i := 428) (by decide +kernel), List.mem_of_getElem? (i := 429) (by decide +kernel)⟩
theorem lw_p24 : lw_okq (⟨"ModeCells$Book", "cellAt", "(II)I"⟩, 9) := ⟨⟨by decide +kernel, by decide +kernel⟩, List.mem_of_getElem? (i := 41) (by decide +kernel), List.mem_of_getElem? (i := 432) (by decide +kernel), List.mem_of_getElem? (i := 433) (by decide +kernel)⟩
theorem lw_p25 : lw_okq (⟨"ModeCells$Book", "pitchAt", "(II)I"⟩, 9) := ⟨⟨by decide +kernel, by decide +kernel⟩, List.mem_of_getElem? (i := 41) (by decide +kernel), List.mem_of_getElem? (i := 436) (by decide +kernel), List.mem_of_getElem? (i := 437) (by decide +kernel)⟩
theorem lw_p26 : lw_okq (⟨"ModeCells$Past", "remember", "(LModeCells$Tune;)V"⟩, 3) := ⟨⟨by decide +kernel, by decide +kernel⟩, List.mem_of_getElem? (i := 129) (by decide +kernel), List.mem_of_getElem? (i := 444) (by decide +kernel), List.mem_of_getElem? (i := 445) (by decide +kernel)⟩
theorem lw_p27 : lw_okq (⟨"ModeCells$Shelf", "put", "(ILModeCells$Tune;)V"⟩, 2) := ⟨⟨by decide +kernel, by decide +kernel⟩, List.mem_of_getElem? (i := 135) (by decide +kernel), List.mem_of_getElem? (i := 448) (by decide +kernel), List.mem_of_getElem? (i := 449) (by decide +kernel)⟩
theorem lw_p28 : lw_okq (⟨"ModeCells$Tune", "append", "(I)V"⟩, 3) := ⟨⟨by decide +kernel, by decide +kernel⟩, List.mem_of_getElem? (i := 103) (by decide +kernel), List.mem_of_getElem? (i := 453) (by decide +kernel), List.mem_of_getElem? (i := 454) (by decide +kernel)⟩
theorem lw_p29 : lw_okq (⟨"ModeCells$Tune", "removeLast", "()I"⟩, 3) := ⟨⟨by decide +kernel, by decide +kernel⟩, List.mem_of_getElem? (i := 103) (by decide +kernel), List.mem_of_getElem? (i := 461) (by decide +kernel), List.mem_of_getElem? (i := 462) (by decide +kernel)⟩
theorem lw_p30 : lw_okq (⟨"ModeCells$Tune", "isPlace", "(I)Z"⟩, 3) := ⟨⟨by decide +kernel, by decide +kernel⟩, List.mem_of_getElem? (i := 103) (by decide +kernel), List.mem_of_getElem? (i := 469) (by decide +kernel), List.mem_of_getElem? (i := 470) (by decide +kernel)⟩
theorem lw_p31 : lw_okq (⟨"ModeCells$Tune", "replace", "(II)I"⟩, 3) := ⟨⟨by decide +kernel, by decide +kernel⟩, List.mem_of_getElem? (i := 103) (by decide +kernel), List.mem_of_getElem? (i := 473) (by decide +kernel), List.mem_of_getElem? (i := 474) (by decide +kernel)⟩
def lw_privs_2 : List (MethodName × Nat) := [(⟨"ModeCells$Ways", "dropMeasures", "()V"⟩, 5), (⟨"ModeCells$Tune", "dropNotes", "()V"⟩, 3), (⟨"ModeCells$Past", "dropAll", "()V"⟩, 3), (⟨"ModeCells$Shelf", "dropAll", "()V"⟩, 2), (⟨"ModeCells$Book", "stepAt", "(II)I"⟩, 9), (⟨"ModeCells$Book", "isScale", "(I)Z"⟩, 9), (⟨"ModeCells$Book", "scaleCount", "()I"⟩, 9), (⟨"ModeCells$Book", "partsOf", "(I)I"⟩, 9), (⟨"ModeCells$Book", "cellAt", "(II)I"⟩, 9), (⟨"ModeCells$Book", "pitchAt", "(II)I"⟩, 9), (⟨"ModeCells$Past", "remember", "(LModeCells$Tune;)V"⟩, 3), (⟨"ModeCells$Shelf", "put", "(ILModeCells$Tune;)V"⟩, 2), (⟨"ModeCells$Tune", "append", "(I)V"⟩, 3), (⟨"ModeCells$Tune", "removeLast", "()I"⟩, 3), (⟨"ModeCells$Tune", "isPlace", "(I)Z"⟩, 3), (⟨"ModeCells$Tune", "replace", "(II)I"⟩, 3)]
theorem lw_r2 : ∀ q ∈ lw_privs_2, lw_okq q := List.forall_mem_cons.mpr ⟨lw_p16, List.forall_mem_cons.mpr ⟨lw_p17, List.forall_mem_cons.mpr ⟨lw_p18, List.forall_mem_cons.mpr ⟨lw_p19, List.forall_mem_cons.mpr ⟨lw_p20, List.forall_mem_cons.mpr ⟨lw_p21, List.forall_mem_cons.mpr ⟨lw_p22, List.forall_mem_cons.mpr ⟨lw_p23, List.forall_mem_cons.mpr ⟨lw_p24, List.forall_mem_cons.mpr ⟨lw_p25, List.forall_mem_cons.mpr ⟨lw_p26, List.forall_mem_cons.mpr ⟨lw_p27, List.forall_mem_cons.mpr ⟨lw_p28, List.forall_mem_cons.mpr ⟨lw_p29, List.forall_mem_cons.mpr ⟨lw_p30, List.forall_mem_cons.mpr ⟨lw_p31, fun _ h => absurd h List.not_mem_nil⟩⟩⟩⟩⟩⟩⟩⟩⟩⟩⟩⟩⟩⟩⟩⟩
theorem lw_p32 : lw_okq (⟨"ModeCells$Tune", "canShift", "(I)Z"⟩, 3) := ⟨⟨by decide +kernel, by decide +kernel⟩, List.mem_of_getElem? (i := 103) (by decide +kernel), List.mem_of_getElem? (i := 481) (by decide +kernel), List.mem_of_getElem? (i := 482) (by decide +kernel)⟩
theorem lw_p33 : lw_okq (⟨"ModeCells$Tune", "shift", "(I)V"⟩, 3) := ⟨⟨by decide +kernel, by decide +kernel⟩, List.mem_of_getElem? (i := 103) (by decide +kernel), List.mem_of_getElem? (i := 486) (by decide +kernel), List.mem_of_getElem? (i := 487) (by decide +kernel)⟩
theorem lw_p34 : lw_okq (⟨"ModeCells$Past", "restore", "(LModeCells$Tune;)V"⟩, 3) := ⟨⟨by decide +kernel, by decide +kernel⟩, List.mem_of_getElem? (i := 129) (by decide +kernel), List.mem_of_getElem? (i := 494) (by decide +kernel), List.mem_of_getElem? (i := 495) (by decide +kernel)⟩
theorem lw_p35 : lw_okq (⟨"ModeCells$Shelf", "giveTo", "(LModeCells$Tune;I)V"⟩, 2) := ⟨⟨by decide +kernel, by decide +kernel⟩, List.mem_of_getElem? (i := 135) (by decide +kernel), List.mem_of_getElem? (i := 498) (by decide +kernel), List.mem_of_getElem? (i := 499) (by decide +kernel)⟩
theorem lw_p36 : lw_okq (⟨"ModeCells$Book", "partsWith", "(II)I"⟩, 9) := ⟨⟨by decide +kernel, by decide +kernel⟩, List.mem_of_getElem? (i := 41) (by decide +kernel), List.mem_of_getElem? (i := 510) (by decide +kernel), List.mem_of_getElem? (i := 511) (by decide +kernel)⟩
theorem lw_p37 : lw_okq (⟨"ModeCells$Book", "isIn", "(III)Z"⟩, 9) := ⟨⟨by decide +kernel, by decide +kernel⟩, List.mem_of_getElem? (i := 41) (by decide +kernel), List.mem_of_getElem? (i := 515) (by decide +kernel), List.mem_of_getElem? (i := 516) (by decide +kernel)⟩
theorem lw_p38 : lw_okq (⟨"ModeCells$Book", "samePart", "(III)I"⟩, 9) := ⟨⟨by decide +kernel, by decide +kernel⟩, List.mem_of_getElem? (i := 41) (by decide +kernel), List.mem_of_getElem? (i := 525) (by decide +kernel), List.mem_of_getElem? (i := 526) (by decide +kernel)⟩
theorem lw_p39 : lw_okq (⟨"ModeCells$Book", "placedCell", "(II)I"⟩, 9) := ⟨⟨by decide +kernel, by decide +kernel⟩, List.mem_of_getElem? (i := 41) (by decide +kernel), List.mem_of_getElem? (i := 529) (by decide +kernel), List.mem_of_getElem? (i := 530) (by decide +kernel)⟩
theorem lw_p40 : lw_okq (⟨"ModeCells$Ways", "measureFrom", "(I)V"⟩, 5) := ⟨⟨by decide +kernel, by decide +kernel⟩, List.mem_of_getElem? (i := 181) (by decide +kernel), List.mem_of_getElem? (i := 537) (by decide +kernel), List.mem_of_getElem? (i := 538) (by decide +kernel)⟩
theorem lw_p41 : lw_okq (⟨"ModeCells$Ways", "enqueue", "(II)V"⟩, 5) := ⟨⟨by decide +kernel, by decide +kernel⟩, List.mem_of_getElem? (i := 181) (by decide +kernel), List.mem_of_getElem? (i := 542) (by decide +kernel), List.mem_of_getElem? (i := 543) (by decide +kernel)⟩
theorem lw_p42 : lw_okq (⟨"ModeCells$Ways", "enqueueSharers", "(II)V"⟩, 5) := ⟨⟨by decide +kernel, by decide +kernel⟩, List.mem_of_getElem? (i := 181) (by decide +kernel), List.mem_of_getElem? (i := 547) (by decide +kernel), List.mem_of_getElem? (i := 548) (by decide +kernel)⟩
theorem lw_p43 : lw_okq (⟨"ModeCells$Ways", "walk", "(II)I"⟩, 5) := ⟨⟨by decide +kernel, by decide +kernel⟩, List.mem_of_getElem? (i := 181) (by decide +kernel), List.mem_of_getElem? (i := 554) (by decide +kernel), List.mem_of_getElem? (i := 555) (by decide +kernel)⟩
theorem lw_p44 : lw_okq (⟨"ModeCells$Ways", "lowestNearer", "(I)I"⟩, 5) := ⟨⟨by decide +kernel, by decide +kernel⟩, List.mem_of_getElem? (i := 181) (by decide +kernel), List.mem_of_getElem? (i := 558) (by decide +kernel), List.mem_of_getElem? (i := 559) (by decide +kernel)⟩
theorem lw_p45 : lw_okq (⟨"ModeCells$Ways", "sharesSome", "(II)Z"⟩, 5) := ⟨⟨by decide +kernel, by decide +kernel⟩, List.mem_of_getElem? (i := 181) (by decide +kernel), List.mem_of_getElem? (i := 563) (by decide +kernel), List.mem_of_getElem? (i := 564) (by decide +kernel)⟩
theorem lw_p46 : lw_okq (⟨"ModeCells$Ways", "mostDistant", "()I"⟩, 5) := ⟨⟨by decide +kernel, by decide +kernel⟩, List.mem_of_getElem? (i := 181) (by decide +kernel), List.mem_of_getElem? (i := 572) (by decide +kernel), List.mem_of_getElem? (i := 573) (by decide +kernel)⟩
theorem lw_p47 : lw_okq (⟨"ModeCells$Parser", "refresh", "()V"⟩, 11) := ⟨⟨by decide +kernel, by decide +kernel⟩, List.mem_of_getElem? (i := 204) (by decide +kernel), List.mem_of_getElem? (i := 580) (by decide +kernel), List.mem_of_getElem? (i := 581) (by decide +kernel)⟩
def lw_privs_3 : List (MethodName × Nat) := [(⟨"ModeCells$Tune", "canShift", "(I)Z"⟩, 3), (⟨"ModeCells$Tune", "shift", "(I)V"⟩, 3), (⟨"ModeCells$Past", "restore", "(LModeCells$Tune;)V"⟩, 3), (⟨"ModeCells$Shelf", "giveTo", "(LModeCells$Tune;I)V"⟩, 2), (⟨"ModeCells$Book", "partsWith", "(II)I"⟩, 9), (⟨"ModeCells$Book", "isIn", "(III)Z"⟩, 9), (⟨"ModeCells$Book", "samePart", "(III)I"⟩, 9), (⟨"ModeCells$Book", "placedCell", "(II)I"⟩, 9), (⟨"ModeCells$Ways", "measureFrom", "(I)V"⟩, 5), (⟨"ModeCells$Ways", "enqueue", "(II)V"⟩, 5), (⟨"ModeCells$Ways", "enqueueSharers", "(II)V"⟩, 5), (⟨"ModeCells$Ways", "walk", "(II)I"⟩, 5), (⟨"ModeCells$Ways", "lowestNearer", "(I)I"⟩, 5), (⟨"ModeCells$Ways", "sharesSome", "(II)Z"⟩, 5), (⟨"ModeCells$Ways", "mostDistant", "()I"⟩, 5), (⟨"ModeCells$Parser", "refresh", "()V"⟩, 11)]
theorem lw_r3 : ∀ q ∈ lw_privs_3, lw_okq q := List.forall_mem_cons.mpr ⟨lw_p32, List.forall_mem_cons.mpr ⟨lw_p33, List.forall_mem_cons.mpr ⟨lw_p34, List.forall_mem_cons.mpr ⟨lw_p35, List.forall_mem_cons.mpr ⟨lw_p36, List.forall_mem_cons.mpr ⟨lw_p37, List.forall_mem_cons.mpr ⟨lw_p38, List.forall_mem_cons.mpr ⟨lw_p39, List.forall_mem_cons.mpr ⟨lw_p40, List.forall_mem_cons.mpr ⟨lw_p41, List.forall_mem_cons.mpr ⟨lw_p42, List.forall_mem_cons.mpr ⟨lw_p43, List.forall_mem_cons.mpr ⟨lw_p44, List.forall_mem_cons.mpr ⟨lw_p45, List.forall_mem_cons.mpr ⟨lw_p46, List.forall_mem_cons.mpr ⟨lw_p47, fun _ h => absurd h List.not_mem_nil⟩⟩⟩⟩⟩⟩⟩⟩⟩⟩⟩⟩⟩⟩⟩⟩
theorem lw_p48 : lw_okq (⟨"ModeCells$Parser", "measureEntries", "(I)V"⟩, 11) := ⟨⟨by decide +kernel, by decide +kernel⟩, List.mem_of_getElem? (i := 204) (by decide +kernel), List.mem_of_getElem? (i := 584) (by decide +kernel), List.mem_of_getElem? (i := 585) (by decide +kernel)⟩
theorem lw_p49 : lw_okq (⟨"ModeCells$Parser", "restAt", "(II)I"⟩, 11) := ⟨⟨by decide +kernel, by decide +kernel⟩, List.mem_of_getElem? (i := 204) (by decide +kernel), List.mem_of_getElem? (i := 596) (by decide +kernel), List.mem_of_getElem? (i := 597) (by decide +kernel)⟩
theorem lw_p50 : lw_okq (⟨"ModeCells$Parser", "measureRests", "(I)V"⟩, 11) := ⟨⟨by decide +kernel, by decide +kernel⟩, List.mem_of_getElem? (i := 204) (by decide +kernel), List.mem_of_getElem? (i := 601) (by decide +kernel), List.mem_of_getElem? (i := 602) (by decide +kernel)⟩
theorem lw_p51 : lw_okq (⟨"ModeCells$Parser", "leastRest", "(III)I"⟩, 11) := ⟨⟨by decide +kernel, by decide +kernel⟩, List.mem_of_getElem? (i := 204) (by decide +kernel), List.mem_of_getElem? (i := 606) (by decide +kernel), List.mem_of_getElem? (i := 607) (by decide +kernel)⟩
theorem lw_p52 : lw_okq (⟨"ModeCells$Parser", "choose", "()V"⟩, 11) := ⟨⟨by decide +kernel, by decide +kernel⟩, List.mem_of_getElem? (i := 204) (by decide +kernel), List.mem_of_getElem? (i := 610) (by decide +kernel), List.mem_of_getElem? (i := 611) (by decide +kernel)⟩
theorem lw_p53 : lw_okq (⟨"ModeCells$Parser", "firstSpot", "()I"⟩, 11) := ⟨⟨by decide +kernel, by decide +kernel⟩, List.mem_of_getElem? (i := 204) (by decide +kernel), List.mem_of_getElem? (i := 614) (by decide +kernel), List.mem_of_getElem? (i := 615) (by decide +kernel)⟩
theorem lw_p54 : lw_okq (⟨"ModeCells$Parser", "nextSpot", "(II)I"⟩, 11) := ⟨⟨by decide +kernel, by decide +kernel⟩, List.mem_of_getElem? (i := 204) (by decide +kernel), List.mem_of_getElem? (i := 618) (by decide +kernel), List.mem_of_getElem? (i := 619) (by decide +kernel)⟩
theorem lw_p55 : lw_okq (⟨"ModeCells$Parser", "changeCost", "(II)I"⟩, 11) := ⟨⟨by decide +kernel, by decide +kernel⟩, List.mem_of_getElem? (i := 204) (by decide +kernel), List.mem_of_getElem? (i := 622) (by decide +kernel), List.mem_of_getElem? (i := 623) (by decide +kernel)⟩
theorem lw_p56 : lw_okq (⟨"ModeCells$Parser", "countChange", "(I)V"⟩, 11) := ⟨⟨by decide +kernel, by decide +kernel⟩, List.mem_of_getElem? (i := 204) (by decide +kernel), List.mem_of_getElem? (i := 633) (by decide +kernel), List.mem_of_getElem? (i := 634) (by decide +kernel)⟩
theorem lw_p57 : lw_okq (⟨"ModeCells$Prefix", "longest", "()I"⟩, 4) := ⟨⟨by decide +kernel, by decide +kernel⟩, List.mem_of_getElem? (i := 210) (by decide +kernel), List.mem_of_getElem? (i := 637) (by decide +kernel), List.mem_of_getElem? (i := 638) (by decide +kernel)⟩
theorem lw_p58 : lw_okq (⟨"ModeCells$Prefix", "findLive", "(I)Z"⟩, 4) := ⟨⟨by decide +kernel, by decide +kernel⟩, List.mem_of_getElem? (i := 210) (by decide +kernel), List.mem_of_getElem? (i := 642) (by decide +kernel), List.mem_of_getElem? (i := 643) (by decide +kernel)⟩
theorem lw_p59 : lw_okq (⟨"ModeCells$Prefix", "markFromLive", "(I)V"⟩, 4) := ⟨⟨by decide +kernel, by decide +kernel⟩, List.mem_of_getElem? (i := 210) (by decide +kernel), List.mem_of_getElem? (i := 650) (by decide +kernel), List.mem_of_getElem? (i := 651) (by decide +kernel)⟩
theorem lw_p60 : lw_okq (⟨"ModeCells", "fitOf", "(I)I"⟩, 10) := ⟨⟨by decide +kernel, by decide +kernel⟩, List.mem_of_getElem? (i := 17) (by decide +kernel), List.mem_of_getElem? (i := 668) (by decide +kernel), List.mem_of_getElem? (i := 669) (by decide +kernel)⟩
theorem lw_p61 : lw_okq (⟨"ModeCells$Seen", "add", "(II)V"⟩, 3) := ⟨⟨by decide +kernel, by decide +kernel⟩, List.mem_of_getElem? (i := 164) (by decide +kernel), List.mem_of_getElem? (i := 681) (by decide +kernel), List.mem_of_getElem? (i := 682) (by decide +kernel)⟩
theorem lw_p62 : lw_okq (⟨"ModeCells$Seen", "agreesWith", "(LModeCells$Book;I)Z"⟩, 3) := ⟨⟨by decide +kernel, by decide +kernel⟩, List.mem_of_getElem? (i := 164) (by decide +kernel), List.mem_of_getElem? (i := 693) (by decide +kernel), List.mem_of_getElem? (i := 694) (by decide +kernel)⟩
theorem lw_p63 : lw_okq (⟨"ModeCells$Shelf", "isKept", "(I)Z"⟩, 2) := ⟨⟨by decide +kernel, by decide +kernel⟩, List.mem_of_getElem? (i := 135) (by decide +kernel), List.mem_of_getElem? (i := 707) (by decide +kernel), List.mem_of_getElem? (i := 708) (by decide +kernel)⟩
def lw_privs_4 : List (MethodName × Nat) := [(⟨"ModeCells$Parser", "measureEntries", "(I)V"⟩, 11), (⟨"ModeCells$Parser", "restAt", "(II)I"⟩, 11), (⟨"ModeCells$Parser", "measureRests", "(I)V"⟩, 11), (⟨"ModeCells$Parser", "leastRest", "(III)I"⟩, 11), (⟨"ModeCells$Parser", "choose", "()V"⟩, 11), (⟨"ModeCells$Parser", "firstSpot", "()I"⟩, 11), (⟨"ModeCells$Parser", "nextSpot", "(II)I"⟩, 11), (⟨"ModeCells$Parser", "changeCost", "(II)I"⟩, 11), (⟨"ModeCells$Parser", "countChange", "(I)V"⟩, 11), (⟨"ModeCells$Prefix", "longest", "()I"⟩, 4), (⟨"ModeCells$Prefix", "findLive", "(I)Z"⟩, 4), (⟨"ModeCells$Prefix", "markFromLive", "(I)V"⟩, 4), (⟨"ModeCells", "fitOf", "(I)I"⟩, 10), (⟨"ModeCells$Seen", "add", "(II)V"⟩, 3), (⟨"ModeCells$Seen", "agreesWith", "(LModeCells$Book;I)Z"⟩, 3), (⟨"ModeCells$Shelf", "isKept", "(I)Z"⟩, 2)]
theorem lw_r4 : ∀ q ∈ lw_privs_4, lw_okq q := List.forall_mem_cons.mpr ⟨lw_p48, List.forall_mem_cons.mpr ⟨lw_p49, List.forall_mem_cons.mpr ⟨lw_p50, List.forall_mem_cons.mpr ⟨lw_p51, List.forall_mem_cons.mpr ⟨lw_p52, List.forall_mem_cons.mpr ⟨lw_p53, List.forall_mem_cons.mpr ⟨lw_p54, List.forall_mem_cons.mpr ⟨lw_p55, List.forall_mem_cons.mpr ⟨lw_p56, List.forall_mem_cons.mpr ⟨lw_p57, List.forall_mem_cons.mpr ⟨lw_p58, List.forall_mem_cons.mpr ⟨lw_p59, List.forall_mem_cons.mpr ⟨lw_p60, List.forall_mem_cons.mpr ⟨lw_p61, List.forall_mem_cons.mpr ⟨lw_p62, List.forall_mem_cons.mpr ⟨lw_p63, fun _ h => absurd h List.not_mem_nil⟩⟩⟩⟩⟩⟩⟩⟩⟩⟩⟩⟩⟩⟩⟩⟩
theorem lw_p64 : lw_okq (⟨"ModeCellsModel", "takes", "()V"⟩, 29) := ⟨⟨by decide +kernel, by decide +kernel⟩, List.mem_of_getElem? (i := 716) (by decide +kernel), List.mem_of_getElem? (i := 825) (by decide +kernel), List.mem_of_getElem? (i := 826) (by decide +kernel)⟩
theorem lw_p65 : lw_okq (⟨"ModeCellsModel", "isFigure", "(I)Z"⟩, 29) := ⟨⟨by decide +kernel, by decide +kernel⟩, List.mem_of_getElem? (i := 716) (by decide +kernel), List.mem_of_getElem? (i := 829) (by decide +kernel), List.mem_of_getElem? (i := 830) (by decide +kernel)⟩
theorem lw_p66 : lw_okq (⟨"ModeCellsModel", "readsCell", "()Z"⟩, 29) := ⟨⟨by decide +kernel, by decide +kernel⟩, List.mem_of_getElem? (i := 716) (by decide +kernel), List.mem_of_getElem? (i := 833) (by decide +kernel), List.mem_of_getElem? (i := 834) (by decide +kernel)⟩
theorem lw_p67 : lw_okq (⟨"ModeCellsModel", "isNumber", "(II)Z"⟩, 29) := ⟨⟨by decide +kernel, by decide +kernel⟩, List.mem_of_getElem? (i := 716) (by decide +kernel), List.mem_of_getElem? (i := 837) (by decide +kernel), List.mem_of_getElem? (i := 838) (by decide +kernel)⟩
theorem lw_p68 : lw_okq (⟨"ModeCellsModel", "readsMode", "()Z"⟩, 29) := ⟨⟨by decide +kernel, by decide +kernel⟩, List.mem_of_getElem? (i := 716) (by decide +kernel), List.mem_of_getElem? (i := 841) (by decide +kernel), List.mem_of_getElem? (i := 842) (by decide +kernel)⟩
theorem lw_p69 : lw_okq (⟨"ModeCellsModel", "becomes", "()V"⟩, 29) := ⟨⟨by decide +kernel, by decide +kernel⟩, List.mem_of_getElem? (i := 716) (by decide +kernel), List.mem_of_getElem? (i := 845) (by decide +kernel), List.mem_of_getElem? (i := 846) (by decide +kernel)⟩
theorem lw_p70 : lw_okq (⟨"ModeCellsModel", "span", "(I)I"⟩, 29) := ⟨⟨by decide +kernel, by decide +kernel⟩, List.mem_of_getElem? (i := 716) (by decide +kernel), List.mem_of_getElem? (i := 849) (by decide +kernel), List.mem_of_getElem? (i := 850) (by decide +kernel)⟩
theorem lw_p71 : lw_okq (⟨"ModeCellsModel", "isScale", "(I)Z"⟩, 29) := ⟨⟨by decide +kernel, by decide +kernel⟩, List.mem_of_getElem? (i := 716) (by decide +kernel), List.mem_of_getElem? (i := 861) (by decide +kernel), List.mem_of_getElem? (i := 862) (by decide +kernel)⟩
theorem lw_p72 : lw_okq (⟨"ModeCellsModel", "parts", "(I)I"⟩, 29) := ⟨⟨by decide +kernel, by decide +kernel⟩, List.mem_of_getElem? (i := 716) (by decide +kernel), List.mem_of_getElem? (i := 865) (by decide +kernel), List.mem_of_getElem? (i := 866) (by decide +kernel)⟩
theorem lw_p73 : lw_okq (⟨"ModeCellsModel", "cellOf", "(II)I"⟩, 29) := ⟨⟨by decide +kernel, by decide +kernel⟩, List.mem_of_getElem? (i := 716) (by decide +kernel), List.mem_of_getElem? (i := 869) (by decide +kernel), List.mem_of_getElem? (i := 870) (by decide +kernel)⟩
theorem lw_p74 : lw_okq (⟨"ModeCellsModel", "pitchOf", "(II)I"⟩, 29) := ⟨⟨by decide +kernel, by decide +kernel⟩, List.mem_of_getElem? (i := 716) (by decide +kernel), List.mem_of_getElem? (i := 873) (by decide +kernel), List.mem_of_getElem? (i := 874) (by decide +kernel)⟩
theorem lw_p75 : lw_okq (⟨"ModeCellsModel", "manyHave", "(II)I"⟩, 29) := ⟨⟨by decide +kernel, by decide +kernel⟩, List.mem_of_getElem? (i := 716) (by decide +kernel), List.mem_of_getElem? (i := 881) (by decide +kernel), List.mem_of_getElem? (i := 882) (by decide +kernel)⟩
theorem lw_p76 : lw_okq (⟨"ModeCellsModel", "isInPart", "(III)Z"⟩, 29) := ⟨⟨by decide +kernel, by decide +kernel⟩, List.mem_of_getElem? (i := 716) (by decide +kernel), List.mem_of_getElem? (i := 885) (by decide +kernel), List.mem_of_getElem? (i := 886) (by decide +kernel)⟩
theorem lw_p77 : lw_okq (⟨"ModeCellsModel", "isIn", "(III)Z"⟩, 29) := ⟨⟨by decide +kernel, by decide +kernel⟩, List.mem_of_getElem? (i := 716) (by decide +kernel), List.mem_of_getElem? (i := 889) (by decide +kernel), List.mem_of_getElem? (i := 890) (by decide +kernel)⟩
theorem lw_p78 : lw_okq (⟨"ModeCellsModel", "sameIn", "(III)I"⟩, 29) := ⟨⟨by decide +kernel, by decide +kernel⟩, List.mem_of_getElem? (i := 716) (by decide +kernel), List.mem_of_getElem? (i := 897) (by decide +kernel), List.mem_of_getElem? (i := 898) (by decide +kernel)⟩
theorem lw_p79 : lw_okq (⟨"ModeCellsModel", "laysFar", "(I)V"⟩, 29) := ⟨⟨by decide +kernel, by decide +kernel⟩, List.mem_of_getElem? (i := 716) (by decide +kernel), List.mem_of_getElem? (i := 905) (by decide +kernel), List.mem_of_getElem? (i := 906) (by decide +kernel)⟩
def lw_privs_5 : List (MethodName × Nat) := [(⟨"ModeCellsModel", "takes", "()V"⟩, 29), (⟨"ModeCellsModel", "isFigure", "(I)Z"⟩, 29), (⟨"ModeCellsModel", "readsCell", "()Z"⟩, 29), (⟨"ModeCellsModel", "isNumber", "(II)Z"⟩, 29), (⟨"ModeCellsModel", "readsMode", "()Z"⟩, 29), (⟨"ModeCellsModel", "becomes", "()V"⟩, 29), (⟨"ModeCellsModel", "span", "(I)I"⟩, 29), (⟨"ModeCellsModel", "isScale", "(I)Z"⟩, 29), (⟨"ModeCellsModel", "parts", "(I)I"⟩, 29), (⟨"ModeCellsModel", "cellOf", "(II)I"⟩, 29), (⟨"ModeCellsModel", "pitchOf", "(II)I"⟩, 29), (⟨"ModeCellsModel", "manyHave", "(II)I"⟩, 29), (⟨"ModeCellsModel", "isInPart", "(III)Z"⟩, 29), (⟨"ModeCellsModel", "isIn", "(III)Z"⟩, 29), (⟨"ModeCellsModel", "sameIn", "(III)I"⟩, 29), (⟨"ModeCellsModel", "laysFar", "(I)V"⟩, 29)]
theorem lw_r5 : ∀ q ∈ lw_privs_5, lw_okq q := List.forall_mem_cons.mpr ⟨lw_p64, List.forall_mem_cons.mpr ⟨lw_p65, List.forall_mem_cons.mpr ⟨lw_p66, List.forall_mem_cons.mpr ⟨lw_p67, List.forall_mem_cons.mpr ⟨lw_p68, List.forall_mem_cons.mpr ⟨lw_p69, List.forall_mem_cons.mpr ⟨lw_p70, List.forall_mem_cons.mpr ⟨lw_p71, List.forall_mem_cons.mpr ⟨lw_p72, List.forall_mem_cons.mpr ⟨lw_p73, List.forall_mem_cons.mpr ⟨lw_p74, List.forall_mem_cons.mpr ⟨lw_p75, List.forall_mem_cons.mpr ⟨lw_p76, List.forall_mem_cons.mpr ⟨lw_p77, List.forall_mem_cons.mpr ⟨lw_p78, List.forall_mem_cons.mpr ⟨lw_p79, fun _ h => absurd h List.not_mem_nil⟩⟩⟩⟩⟩⟩⟩⟩⟩⟩⟩⟩⟩⟩⟩⟩
theorem lw_p80 : lw_okq (⟨"ModeCellsModel", "share", "(II)Z"⟩, 29) := ⟨⟨by decide +kernel, by decide +kernel⟩, List.mem_of_getElem? (i := 716) (by decide +kernel), List.mem_of_getElem? (i := 909) (by decide +kernel), List.mem_of_getElem? (i := 910) (by decide +kernel)⟩
theorem lw_p81 : lw_okq (⟨"ModeCellsModel", "laysCosts", "()I"⟩, 29) := ⟨⟨by decide +kernel, by decide +kernel⟩, List.mem_of_getElem? (i := 716) (by decide +kernel), List.mem_of_getElem? (i := 921) (by decide +kernel), List.mem_of_getElem? (i := 922) (by decide +kernel)⟩
theorem lw_p82 : lw_okq (⟨"ModeCellsModel", "leastFrom", "(III)I"⟩, 29) := ⟨⟨by decide +kernel, by decide +kernel⟩, List.mem_of_getElem? (i := 716) (by decide +kernel), List.mem_of_getElem? (i := 926) (by decide +kernel), List.mem_of_getElem? (i := 927) (by decide +kernel)⟩
theorem lw_p83 : lw_okq (⟨"ModeCellsModel", "laysParse", "(I)V"⟩, 29) := ⟨⟨by decide +kernel, by decide +kernel⟩, List.mem_of_getElem? (i := 716) (by decide +kernel), List.mem_of_getElem? (i := 933) (by decide +kernel), List.mem_of_getElem? (i := 934) (by decide +kernel)⟩
theorem lw_p84 : lw_okq (⟨"ModeCellsModel", "step", "(IIII)I"⟩, 29) := ⟨⟨by decide +kernel, by decide +kernel⟩, List.mem_of_getElem? (i := 716) (by decide +kernel), List.mem_of_getElem? (i := 937) (by decide +kernel), List.mem_of_getElem? (i := 938) (by decide +kernel)⟩
theorem lw_p85 : lw_okq (⟨"ModeCellsModel", "isNote", "(I)Z"⟩, 29) := ⟨⟨by decide +kernel, by decide +kernel⟩, List.mem_of_getElem? (i := 716) (by decide +kernel), List.mem_of_getElem? (i := 945) (by decide +kernel), List.mem_of_getElem? (i := 946) (by decide +kernel)⟩
theorem lw_p86 : lw_okq (⟨"ModeCellsModel", "fitOf", "(I)I"⟩, 29) := ⟨⟨by decide +kernel, by decide +kernel⟩, List.mem_of_getElem? (i := 716) (by decide +kernel), List.mem_of_getElem? (i := 957) (by decide +kernel), List.mem_of_getElem? (i := 958) (by decide +kernel)⟩
theorem lw_p87 : lw_okq (⟨"ModeCellsModel", "remembers", "()V"⟩, 29) := ⟨⟨by decide +kernel, by decide +kernel⟩, List.mem_of_getElem? (i := 716) (by decide +kernel), List.mem_of_getElem? (i := 969) (by decide +kernel), List.mem_of_getElem? (i := 970) (by decide +kernel)⟩
def lw_privs_6 : List (MethodName × Nat) := [(⟨"ModeCellsModel", "share", "(II)Z"⟩, 29), (⟨"ModeCellsModel", "laysCosts", "()I"⟩, 29), (⟨"ModeCellsModel", "leastFrom", "(III)I"⟩, 29), (⟨"ModeCellsModel", "laysParse", "(I)V"⟩, 29), (⟨"ModeCellsModel", "step", "(IIII)I"⟩, 29), (⟨"ModeCellsModel", "isNote", "(I)Z"⟩, 29), (⟨"ModeCellsModel", "fitOf", "(I)I"⟩, 29), (⟨"ModeCellsModel", "remembers", "()V"⟩, 29)]
theorem lw_r6 : ∀ q ∈ lw_privs_6, lw_okq q := List.forall_mem_cons.mpr ⟨lw_p80, List.forall_mem_cons.mpr ⟨lw_p81, List.forall_mem_cons.mpr ⟨lw_p82, List.forall_mem_cons.mpr ⟨lw_p83, List.forall_mem_cons.mpr ⟨lw_p84, List.forall_mem_cons.mpr ⟨lw_p85, List.forall_mem_cons.mpr ⟨lw_p86, List.forall_mem_cons.mpr ⟨lw_p87, fun _ h => absurd h List.not_mem_nil⟩⟩⟩⟩⟩⟩⟩⟩
def lw_privs : List (MethodName × Nat) := lw_privs_1 ++ (lw_privs_2 ++ (lw_privs_3 ++ (lw_privs_4 ++ (lw_privs_5 ++ (lw_privs_6)))))
def lw_tbl : List Cond := k2_sels lw_privs ++ tables_1
theorem lw_privs_ok : ∀ q ∈ lw_privs, lw_okq q := by
  show ∀ q ∈ lw_privs_1 ++ (lw_privs_2 ++ (lw_privs_3 ++ (lw_privs_4 ++ (lw_privs_5 ++ (lw_privs_6))))), lw_okq q
  exact List.forall_mem_append.mpr ⟨lw_r1, List.forall_mem_append.mpr ⟨lw_r2, List.forall_mem_append.mpr ⟨lw_r3, List.forall_mem_append.mpr ⟨lw_r4, List.forall_mem_append.mpr ⟨lw_r5, lw_r6⟩⟩⟩⟩⟩
end
section
/-! the classes of the world: name, fields in the order of their slots, how many -/
/-- the words of the tables that stay: all but which methods are private -/
def gl_np (w : Cond) : Bool := match w with
  | .privateMethod _ => false
  | _ => true
def gl_tb : List Cond := k2_sels lw_privs ++ tables_1.filter gl_np
theorem gl_tb_mem : ∀ w ∈ gl_tb, w ∈ lw_tbl := fun w hw => (List.mem_append.mp hw).elim (fun h => List.mem_append_left _ h) (fun h => List.mem_append_right _ (List.mem_filter.mp h).1)
def gl_T (l : List (String × String × String × Bool)) : u_T := fun k => l.getD k ("", "", "", false)
def gl_Y (l : List FieldType) : Nat → FieldType := fun k => l.getD k .int
def gl_F0 : List (String × String × String × Bool) := [("ModeCells$Book", "cellCount", "I", false), ("ModeCells$Book", "stepCounts", "[I", true), ("ModeCells$Book", "steps", "[I", true), ("ModeCells$Book", "heights", "[I", true), ("ModeCells$Book", "noteBits", "[I", true), ("ModeCells$Book", "modeCount", "I", false), ("ModeCells$Book", "partCounts", "[I", true), ("ModeCells$Book", "partCells", "[I", true), ("ModeCells$Book", "partHeights", "[I", true)]
def gl_D0 : List FieldType := [.int, .array .int, .array .int, .array .int, .array .int, .int, .array .int, .array .int, .array .int]
def gl_F1 : List (String × String × String × Bool) := [("ModeCells$Parser", "book", "LModeCells$Book;", true), ("ModeCells$Parser", "tune", "LModeCells$Tune;", true), ("ModeCells$Parser", "rests", "[I", true), ("ModeCells$Parser", "entries", "[I", true), ("ModeCells$Parser", "prefix", "LModeCells$Prefix;", true), ("ModeCells$Parser", "chosen", "[I", true), ("ModeCells$Parser", "found", "Z", false), ("ModeCells$Parser", "scaleChanges", "I", false), ("ModeCells$Parser", "partChanges", "I", false), ("ModeCells$Parser", "reached", "I", false), ("ModeCells$Parser", "parsedChanges", "I", false)]
def gl_D1 : List FieldType := [.object "ModeCells$Book", .object "ModeCells$Tune", .array .int, .array .int, .object "ModeCells$Prefix", .array .int, .boolean, .int, .int, .int, .int]
def gl_F2 : List (String × String × String × Bool) := [("ModeCells$Past", "shelf", "LModeCells$Shelf;", true), ("ModeCells$Past", "oldest", "I", false), ("ModeCells$Past", "known", "I", false)]
def gl_D2 : List FieldType := [.object "ModeCells$Shelf", .int, .int]
def gl_F3 : List (String × String × String × Bool) := [("ModeCells$Prefix", "book", "LModeCells$Book;", true), ("ModeCells$Prefix", "tune", "LModeCells$Tune;", true), ("ModeCells$Prefix", "live", "[Z", true), ("ModeCells$Prefix", "marks", "[I", true)]
def gl_D3 : List FieldType := [.object "ModeCells$Book", .object "ModeCells$Tune", .array .boolean, .array .int]
def gl_F4 : List (String × String × String × Bool) := [("ModeCells$Reader", "text", "LModeCells$Text;", true), ("ModeCells$Reader", "draft", "LModeCells$Book;", true), ("ModeCells$Reader", "place", "I", false), ("ModeCells$Reader", "fault", "I", false)]
def gl_D4 : List FieldType := [.object "ModeCells$Text", .object "ModeCells$Book", .int, .int]
def gl_F5 : List (String × String × String × Bool) := [("ModeCells$Seen", "notes", "[I", true), ("ModeCells$Seen", "answers", "[I", true), ("ModeCells$Seen", "size", "I", false)]
def gl_D5 : List FieldType := [.array .int, .array .int, .int]
def gl_F6 : List (String × String × String × Bool) := [("ModeCells$Shelf", "sizes", "[I", true), ("ModeCells$Shelf", "notes", "[I", true)]
def gl_D6 : List FieldType := [.array .int, .array .int]
def gl_F7 : List (String × String × String × Bool) := [("ModeCells$Text", "letters", "[I", true), ("ModeCells$Text", "length", "I", false)]
def gl_D7 : List FieldType := [.array .int, .int]
def gl_F8 : List (String × String × String × Bool) := [("ModeCells$Tune", "notes", "[I", true), ("ModeCells$Tune", "size", "I", false), ("ModeCells$Tune", "changes", "I", false)]
def gl_D8 : List FieldType := [.array .int, .int, .int]
def gl_F9 : List (String × String × String × Bool) := [("ModeCells$Ways", "book", "LModeCells$Book;", true), ("ModeCells$Ways", "lengths", "[I", true), ("ModeCells$Ways", "queue", "[I", true), ("ModeCells$Ways", "queued", "I", false), ("ModeCells$Ways", "source", "I", false)]
def gl_D9 : List FieldType := [.object "ModeCells$Book", .array .int, .array .int, .int, .int]
def gl_F10 : List (String × String × String × Bool) := [("ModeCells", "text", "LModeCells$Text;", true), ("ModeCells", "reader", "LModeCells$Reader;", true), ("ModeCells", "book", "LModeCells$Book;", true), ("ModeCells", "draft", "LModeCells$Book;", true), ("ModeCells", "tune", "LModeCells$Tune;", true), ("ModeCells", "past", "LModeCells$Past;", true), ("ModeCells", "images", "LModeCells$Shelf;", true), ("ModeCells", "seen", "LModeCells$Seen;", true), ("ModeCells", "ways", "LModeCells$Ways;", true), ("ModeCells", "parser", "LModeCells$Parser;", true)]
def gl_D10 : List FieldType := [.object "ModeCells$Text", .object "ModeCells$Reader", .object "ModeCells$Book", .object "ModeCells$Book", .object "ModeCells$Tune", .object "ModeCells$Past", .object "ModeCells$Shelf", .object "ModeCells$Seen", .object "ModeCells$Ways", .object "ModeCells$Parser"]
def gl_F11 : List (String × String × String × Bool) := [("ModeCellsModel", "thrown", "I", false), ("ModeCellsModel", "cells", "I", false), ("ModeCellsModel", "modes", "I", false), ("ModeCellsModel", "cell", "[I", true), ("ModeCellsModel", "mode", "[I", true), ("ModeCellsModel", "above", "[I", true), ("ModeCellsModel", "readCells", "I", false), ("ModeCellsModel", "readModes", "I", false), ("ModeCellsModel", "readCell", "[I", true), ("ModeCellsModel", "readMode", "[I", true), ("ModeCellsModel", "s", "[I", true), ("ModeCellsModel", "past", "[I", true), ("ModeCellsModel", "undos", "I", false), ("ModeCellsModel", "kept", "[I", true), ("ModeCellsModel", "isKept", "[Z", true), ("ModeCellsModel", "seen", "I", false), ("ModeCellsModel", "seenNote", "[I", true), ("ModeCellsModel", "seenIs", "[I", true), ("ModeCellsModel", "letters", "I", false), ("ModeCellsModel", "text", "[I", true), ("ModeCellsModel", "next", "I", false), ("ModeCellsModel", "begin", "I", false), ("ModeCellsModel", "token", "I", false), ("ModeCellsModel", "far", "[I", true), ("ModeCellsModel", "row", "[I", true), ("ModeCellsModel", "cost", "[I", true), ("ModeCellsModel", "parse", "[I", true), ("ModeCellsModel", "scaleChanges", "I", false), ("ModeCellsModel", "partChanges", "I", false)]
def gl_D11 : List FieldType := [.int, .int, .int, .array .int, .array .int, .array .int, .int, .int, .array .int, .array .int, .array .int, .array .int, .int, .array .int, .array .boolean, .int, .array .int, .array .int, .int, .array .int, .int, .int, .int, .array .int, .array .int, .array .int, .array .int, .int, .int]
def gl_cls : List vw_C := [("ModeCells$Book", gl_T gl_F0, 9), ("ModeCells$Parser", gl_T gl_F1, 11), ("ModeCells$Past", gl_T gl_F2, 3), ("ModeCells$Prefix", gl_T gl_F3, 4), ("ModeCells$Reader", gl_T gl_F4, 4), ("ModeCells$Seen", gl_T gl_F5, 3), ("ModeCells$Shelf", gl_T gl_F6, 2), ("ModeCells$Text", gl_T gl_F7, 2), ("ModeCells$Tune", gl_T gl_F8, 3), ("ModeCells$Ways", gl_T gl_F9, 5), ("ModeCells", gl_T gl_F10, 10), ("ModeCellsModel", gl_T gl_F11, 29)]
def gl_dts : List (List FieldType) := [gl_D0, gl_D1, gl_D2, gl_D3, gl_D4, gl_D5, gl_D6, gl_D7, gl_D8, gl_D9, gl_D10, gl_D11]
theorem gl_in (big ws : List Cond) (ps : List Nat) (h : ws = ps.filterMap (fun i => big[i]?)) : ∀ w ∈ ws, w ∈ big := by
  intro w hw
  rw [h] at hw
  obtain ⟨i, -, hi⟩ := List.mem_filterMap.mp hw
  exact List.mem_of_getElem? hi
/-- what the tables say of a class of the world -/
def gl_okc (q : vw_C) (ty : Nat → FieldType) : Prop := (∀ w ∈ u_ws q.1 q.2.1 q.2.2, w ∈ gl_tb) ∧ (∀ k, k < q.2.2 → parseFieldDescriptor (q.2.1 k).2.2.1 = some (ty k)) ∧ (∀ a, a < q.2.2 → ∀ b, b < q.2.2 → a ≠ b → (q.2.1 a).2.1 ≠ (q.2.1 b).2.1) ∧ (Cond.instantiable q.1 q.2.2) ∈ gl_tb ∧ (Cond.initialized q.1) ∈ gl_tb ∧ (∀ k, k < q.2.2 → (q.2.1 k).1 = q.1)
theorem gl_okc0 : gl_okc ("ModeCells$Book", gl_T gl_F0, 9) (gl_Y gl_D0) := ⟨gl_in gl_tb (u_ws "ModeCells$Book" (gl_T gl_F0) 9) [152, 154, 156, 158, 160, 162, 164, 166, 168] (by decide +kernel), by decide +kernel, by decide +kernel, List.mem_of_getElem? (i := 129) (by decide +kernel), List.mem_of_getElem? (i := 91) (by decide +kernel), by decide +kernel⟩
theorem gl_okc1 : gl_okc ("ModeCells$Parser", gl_T gl_F1, 11) (gl_Y gl_D1) := ⟨gl_in gl_tb (u_ws "ModeCells$Parser" (gl_T gl_F1) 11) [333, 335, 337, 339, 341, 343, 345, 347, 349, 351, 353] (by decide +kernel), by decide +kernel, by decide +kernel, List.mem_of_getElem? (i := 292) (by decide +kernel), List.mem_of_getElem? (i := 99) (by decide +kernel), by decide +kernel⟩
theorem gl_okc2 : gl_okc ("ModeCells$Past", gl_T gl_F2, 3) (gl_Y gl_D2) := ⟨gl_in gl_tb (u_ws "ModeCells$Past" (gl_T gl_F2) 3) [242, 244, 246] (by decide +kernel), by decide +kernel, by decide +kernel, List.mem_of_getElem? (i := 217) (by decide +kernel), List.mem_of_getElem? (i := 94) (by decide +kernel), by decide +kernel⟩
theorem gl_okc3 : gl_okc ("ModeCells$Prefix", gl_T gl_F3, 4) (gl_Y gl_D3) := ⟨gl_in gl_tb (u_ws "ModeCells$Prefix" (gl_T gl_F3) 4) [307, 309, 311, 313] (by decide +kernel), by decide +kernel, by decide +kernel, List.mem_of_getElem? (i := 298) (by decide +kernel), List.mem_of_getElem? (i := 100) (by decide +kernel), by decide +kernel⟩
theorem gl_okc4 : gl_okc ("ModeCells$Reader", gl_T gl_F4, 4) (gl_Y gl_D4) := ⟨gl_in gl_tb (u_ws "ModeCells$Reader" (gl_T gl_F4) 4) [181, 183, 185, 187] (by decide +kernel), by decide +kernel, by decide +kernel, List.mem_of_getElem? (i := 172) (by decide +kernel), List.mem_of_getElem? (i := 92) (by decide +kernel), by decide +kernel⟩
theorem gl_okc5 : gl_okc ("ModeCells$Seen", gl_T gl_F5, 3) (gl_Y gl_D5) := ⟨gl_in gl_tb (u_ws "ModeCells$Seen" (gl_T gl_F5) 3) [261, 263, 265] (by decide +kernel), by decide +kernel, by decide +kernel, List.mem_of_getElem? (i := 252) (by decide +kernel), List.mem_of_getElem? (i := 97) (by decide +kernel), by decide +kernel⟩
theorem gl_okc6 : gl_okc ("ModeCells$Shelf", gl_T gl_F6, 2) (gl_Y gl_D6) := ⟨gl_in gl_tb (u_ws "ModeCells$Shelf" (gl_T gl_F6) 2) [233, 235] (by decide +kernel), by decide +kernel, by decide +kernel, List.mem_of_getElem? (i := 223) (by decide +kernel), List.mem_of_getElem? (i := 95) (by decide +kernel), by decide +kernel⟩
theorem gl_okc7 : gl_okc ("ModeCells$Text", gl_T gl_F7, 2) (gl_Y gl_D7) := ⟨gl_in gl_tb (u_ws "ModeCells$Text" (gl_T gl_F7) 2) [122, 124] (by decide +kernel), by decide +kernel, by decide +kernel, List.mem_of_getElem? (i := 113) (by decide +kernel), List.mem_of_getElem? (i := 90) (by decide +kernel), by decide +kernel⟩
theorem gl_okc8 : gl_okc ("ModeCells$Tune", gl_T gl_F8, 3) (gl_Y gl_D8) := ⟨gl_in gl_tb (u_ws "ModeCells$Tune" (gl_T gl_F8) 3) [209, 211, 213] (by decide +kernel), by decide +kernel, by decide +kernel, List.mem_of_getElem? (i := 191) (by decide +kernel), List.mem_of_getElem? (i := 93) (by decide +kernel), by decide +kernel⟩
theorem gl_okc9 : gl_okc ("ModeCells$Ways", gl_T gl_F9, 5) (gl_Y gl_D9) := ⟨gl_in gl_tb (u_ws "ModeCells$Ways" (gl_T gl_F9) 5) [280, 282, 284, 286, 288] (by decide +kernel), by decide +kernel, by decide +kernel, List.mem_of_getElem? (i := 269) (by decide +kernel), List.mem_of_getElem? (i := 98) (by decide +kernel), by decide +kernel⟩
theorem gl_okc10 : gl_okc ("ModeCells", gl_T gl_F10, 10) (gl_Y gl_D10) := ⟨gl_in gl_tb (u_ws "ModeCells" (gl_T gl_F10) 10) [366, 368, 370, 372, 374, 376, 378, 380, 382, 384] (by decide +kernel), by decide +kernel, by decide +kernel, List.mem_of_getElem? (i := 105) (by decide +kernel), List.mem_of_getElem? (i := 89) (by decide +kernel), by decide +kernel⟩
theorem gl_okc11 : gl_okc ("ModeCellsModel", gl_T gl_F11, 29) (gl_Y gl_D11) := ⟨gl_in gl_tb (u_ws "ModeCellsModel" (gl_T gl_F11) 29) [774, 776, 778, 780, 782, 784, 786, 788, 790, 792, 794, 796, 798, 800, 802, 804, 806, 808, 810, 812, 814, 816, 818, 820, 822, 824, 826, 828, 830] (by decide +kernel), by decide +kernel, by decide +kernel, List.mem_of_getElem? (i := 740) (by decide +kernel), List.mem_of_getElem? (i := 101) (by decide +kernel), by decide +kernel⟩
end
section
/-! THE PURE WORLD: a heap as a list of cells; a reference is a place in it; '.long' stands for the script, '.float' and '.double' for a local that is not set -/
abbrev gl_E : Type := (Bool × Nat × (Nat → Int32)) ⊕ (Nat × List Value)
abbrev gl_M : Type := MethodName × ByteArray × Nat × Option FieldType × Nat × Nat
def gl_mv (base b : Nat) (v : Value) : Value := match v with
  | .ref i => .ref (base + i)
  | .long _ => .ref b
  | w => w
def gl_e (base b cI cB : Nat) (e : gl_E) : va_E := match e with
  | .inl a => .inl (if a.1 = true then cB else cI, a.2.1, .inl a.2.2)
  | .inr o => .inr (o.1, o.2.map (gl_mv base b))
def gl_ws (base b cI cB : Nat) (h : List gl_E) : va_W := h.mapIdx (fun i e => (base + i, gl_e base b cI cB e))
theorem gl_ws_at {base b cI cB : Nat} {h : List gl_E} {i : Nat} {e : gl_E} (hi : h[i]? = some e) : (gl_ws base b cI cB h)[i]? = some (base + i, gl_e base b cI cB e) := by
  simp [gl_ws, List.getElem?_mapIdx, hi]
theorem gl_ws_back {base b cI cB : Nat} {h : List gl_E} {i : Nat} {q : Nat × va_E} (hi : (gl_ws base b cI cB h)[i]? = some q) : ∃ e, h[i]? = some e ∧ q = (base + i, gl_e base b cI cB e) := by
  simp only [gl_ws, List.getElem?_mapIdx] at hi
  cases hh : h[i]? with
  | none => rw [hh] at hi; cases hi
  | some e => rw [hh] at hi; exact ⟨e, rfl, (Option.some.inj hi).symm⟩
theorem gl_ws_set {base b cI cB : Nat} (h : List gl_E) (i : Nat) (e : gl_E) : (gl_ws base b cI cB h).set i (base + i, gl_e base b cI cB e) = gl_ws base b cI cB (h.set i e) := by
  apply List.ext_getElem?
  intro j
  simp only [gl_ws, List.getElem?_set, List.getElem?_mapIdx, List.length_mapIdx]
  by_cases hj : i = j
  · subst hj
    by_cases hl : i < h.length <;> simp [hl]
  · simp [hj]
theorem gl_ws_app {base b cI cB : Nat} (h : List gl_E) (e : gl_E) : gl_ws base b cI cB (h ++ [e]) = gl_ws base b cI cB h ++ [(base + h.length, gl_e base b cI cB e)] := by
  simp [gl_ws, List.mapIdx_append]
theorem gl_D (base b cI cB : Nat) (h : List gl_E) : va_D (fun q : Nat => base ≤ q) (gl_ws base b cI cB h) := by
  refine ⟨fun i j p q hi hj hpq => ?_, fun k q hk => ?_⟩
  · obtain ⟨e1, -, rfl⟩ := gl_ws_back hi
    obtain ⟨e2, -, rfl⟩ := gl_ws_back hj
    simp only at hpq
    omega
  · obtain ⟨e1, -, rfl⟩ := gl_ws_back hk
    simp
/-- the heap H holds the cells h; where z is true nothing lies behind them -/
def gl_Wd (base b : Nat) (D : va_G) (cI cB : Nat) (z : Bool) (h : List gl_E) (H : Heap) : Prop := va_P D gl_cls (gl_ws base b cI cB h) H ∧ (z = true → H.size = base + h.length)
def gl_tys (cI cB : Nat) : List (ClassId × FieldType) := [(cI, .int), (cB, .boolean)]
def gl_is (v : Value) : Bool := match v with
  | .float _ => false
  | .double _ => false
  | _ => true
def gl_lv (base b : Nat) (ls : List Value) : List (Nat × Value) := (ls.zipIdx.filter (fun q => gl_is q.1)).map (fun q => (q.2, gl_mv base b q.1))
theorem gl_lv_mem {base b : Nat} {ls : List Value} {q : Nat × Value} : q ∈ gl_lv base b ls ↔ ∃ v, ls[q.1]? = some v ∧ gl_is v = true ∧ q.2 = gl_mv base b v := by
  simp only [gl_lv, List.mem_map, List.mem_filter]
  constructor
  · rintro ⟨⟨v, i⟩, ⟨h1, h2⟩, rfl⟩
    exact ⟨v, List.mem_zipIdx_iff_getElem?.mp h1, h2, rfl⟩
  · rintro ⟨v, h1, h2, h3⟩
    exact ⟨(v, q.1), ⟨List.mem_zipIdx_iff_getElem?.mpr h1, h2⟩, by rw [← h3]⟩
theorem gl_cat {base b : Nat} {v : Value} (h : gl_is v = true) : (gl_mv base b v).category = 1 := by
  cases v <;> first | rfl | (simp [gl_is] at h)
def gl_L (base b n : Nat) (ls : List Value) (A : Array Slot) : Prop := lv_has A n (gl_lv base b ls) ∧ ls.length = n
theorem gl_L.get {base b n : Nat} {ls : List Value} {A : Array Slot} (h : gl_L base b n ls A) {i : Nat} {v : Value} (hi : ls[i]? = some v) (hv : gl_is v = true) : A[i]? = some (.val (gl_mv base b v)) :=
  h.1.2.2 (i, gl_mv base b v) (gl_lv_mem.mpr ⟨v, hi, hv, rfl⟩)
theorem gl_L.stored {base b n : Nat} {ls : List Value} {A A' : Array Slot} {i : Nat} {v : Value} (h : gl_L base b n ls A)
    (h' : lv_has A' n ((i, gl_mv base b v) :: (gl_lv base b ls).filter (fun q => !(q.1 == i) && !(q.1 + 1 == i && q.2.category == 2)))) : gl_L base b n (ls.set i v) A' := by
  refine ⟨⟨h'.1, h'.2.1, fun q hq => ?_⟩, by rw [List.length_set]; exact h.2⟩
  obtain ⟨w, h1, h2, h3⟩ := gl_lv_mem.mp hq
  rw [List.getElem?_set] at h1
  by_cases hj : i = q.1
  · rw [if_pos hj] at h1
    split at h1
    · cases h1
      have := h'.2.2 (i, gl_mv base b v) List.mem_cons_self
      rw [h3, ← hj]
      exact this
    · cases h1
  · rw [if_neg hj] at h1
    refine h'.2.2 q (List.mem_cons_of_mem _ (List.mem_filter.mpr ⟨gl_lv_mem.mpr ⟨w, h1, h2, h3⟩, ?_⟩))
    have hc : q.2.category = 1 := by rw [h3]; exact gl_cat h2
    simp [hc, Ne.symm hj]
/-- the world of a script, a method, a state at its start -/
def gl_Cx (sc : Nat × (Nat → Int32)) (Mt : gl_M) (base b : Nat) (D : va_G) (cI cB : Nat) (p : Program) (R : Room) (s : State) (m : MethodId) (args : Array Value) (meth : Method) (c : Code) : Prop :=
  p.tables.exec = Jvm.exec ∧ c.code = Mt.2.1 ∧ meth.sig.returnType = Mt.2.2.2.1 ∧ c.maxLocals = Mt.2.2.1 ∧ s.vm.findClass Mt.1.cls = some m.cls ∧ (∀ w ∈ gl_tb, w.before args s = true) ∧ va_K D gl_cls (gl_tys cI cB) s ∧ va_X b sc.1 sc.2 s s.heap ∧ b < base ∧ base ≤ s.heap.size ∧ (Mt.1.name = "<init>" → meth.name = "<init>") ∧ Mt.2.2.2.2.1 ≤ R.frames ∧ Mt.2.2.2.2.2 ≤ R.locals
/-- at pc stands a return that gives r -/
def gl_rt (Mt : gl_M) (pc : Nat) (r : Option Value) : Prop := (r = none ∧ Mt.2.2.2.1 = none ∧ decode Mt.2.1 pc = .ok (.return_, 1)) ∨ ∃ v : Int32, r = some (.int v) ∧ decode Mt.2.1 pc = .ok (.ireturn, 1) ∧ (Mt.2.2.2.1 = some .int ∨ (Mt.2.2.2.1 = some .boolean ∧ narrow .boolean (.int v) = .int v))
/-- from this place of the method, with these locals, this stack, these cells, k cells and n slots yet to be made: it comes to a return with Q -/
def gl_Ev (l : Launch) (sc : Nat × (Nat → Int32)) (Mt : gl_M) (pc : Nat) (ls st : List Value) (h : List gl_E) (z : Bool) (k n : Nat) (Q : Option Value → List gl_E → Prop) : Prop :=
  ∀ (base b : Nat) (D : va_G) (cI cB : Nat) (p : Program) (e : Env) (R : Room) (s : State) (m : MethodId) (args : Array Value) (below : List Frame) (meth : Method) (c : Code) (H : Heap) (locs : List Loc) (cells slots : Nat) (A : Array Slot) (QW : State → Prop),
    gl_Cx sc Mt base b D cI cB p R s m args meth c → gl_Wd base b D cI cB z h H → va_S (fun q : Nat => base ≤ q) s.heap H locs → cells + k ≤ R.cells → slots + n ≤ R.slots → gl_L base b Mt.2.2.1 ls A →
    (∀ (r : Option Value) (h' : List gl_E) (H' : Heap) (locs' : List Loc) (pc' : Nat) (A' : Array Slot), Q r h' → gl_Wd base b D cI cB z h' H' → va_S (fun q : Nat => base ≤ q) s.heap H' locs' → gl_rt Mt pc' r → W p l e R s m args below meth c H' locs' R.cells R.slots QW (F0 m pc' A' (r.toList.map (gl_mv base b)))) →
    W p l e R s m args below meth c H locs cells slots QW (F0 m pc A (st.map (gl_mv base b)))
end
section
section GLR
variable {l : Launch} {sc : Nat × (Nat → Int32)} {Mt : gl_M} {pc : Nat} {ls st : List Value} {h : List gl_E} {z : Bool} {k n : Nat} {Q : Option Value → List gl_E → Prop}
theorem gl_r_iconst {a : Int} (hd : decode Mt.2.1 pc = .ok (.iconst a, 1)) (K : gl_Ev l sc Mt (pc + 1) ls (.int (Int32.ofInt a) :: st) h z k n Q) : gl_Ev l sc Mt pc ls st h z k n Q := by
  intro base b D cI cB p e R s m args below meth c H locs cells slots A QW C W0 S0 hc hs hL fin
  exact lv_iconst C.1 C.2.1 hd rfl (K base b D cI cB p e R s m args below meth c H locs cells slots A QW C W0 S0 hc hs hL fin)
theorem gl_r_bipush {a : Int} (hd : decode Mt.2.1 pc = .ok (.bipush a, 2)) (K : gl_Ev l sc Mt (pc + 2) ls (.int ((Int8.ofInt a).toInt32) :: st) h z k n Q) : gl_Ev l sc Mt pc ls st h z k n Q := by
  intro base b D cI cB p e R s m args below meth c H locs cells slots A QW C W0 S0 hc hs hL fin
  exact lv_bipush C.1 C.2.1 hd rfl (K base b D cI cB p e R s m args below meth c H locs cells slots A QW C W0 S0 hc hs hL fin)
theorem gl_r_sipush {a : Int} (hd : decode Mt.2.1 pc = .ok (.sipush a, 3)) (K : gl_Ev l sc Mt (pc + 3) ls (.int ((Int16.ofInt a).toInt32) :: st) h z k n Q) : gl_Ev l sc Mt pc ls st h z k n Q := by
  intro base b D cI cB p e R s m args below meth c H locs cells slots A QW C W0 S0 hc hs hL fin
  exact lv_sipush C.1 C.2.1 hd rfl (K base b D cI cB p e R s m args below meth c H locs cells slots A QW C W0 S0 hc hs hL fin)
theorem gl_r_ldc {a : Nat} {v : Int32} (hw : (Cond.constant Mt.1.cls a v) ∈ gl_tb) (hd : decode Mt.2.1 pc = .ok (.ldc a, 2)) (K : gl_Ev l sc Mt (pc + 2) ls (.int v :: st) h z k n Q) : gl_Ev l sc Mt pc ls st h z k n Q := by
  intro base b D cI cB p e R s m args below meth c H locs cells slots A QW C W0 S0 hc hs hL fin
  exact lv_ldc C.1 C.2.1 C.2.2.2.2.1 (C.2.2.2.2.2.1 _ hw) hd (K base b D cI cB p e R s m args below meth c H locs cells slots A QW C W0 S0 hc hs hL fin)
theorem gl_r_iload_n {i : Fin 4} {x : Int32} (hi : ls[(i : Nat)]? = some (.int x)) (hd : decode Mt.2.1 pc = .ok (.iload_n i, 1)) (K : gl_Ev l sc Mt (pc + 1) ls (.int x :: st) h z k n Q) : gl_Ev l sc Mt pc ls st h z k n Q := by
  intro base b D cI cB p e R s m args below meth c H locs cells slots A QW C W0 S0 hc hs hL fin
  exact lv_iload_n C.1 C.2.1 hd rfl (hL.get hi rfl) (K base b D cI cB p e R s m args below meth c H locs cells slots A QW C W0 S0 hc hs hL fin)
theorem gl_r_iload {i : Nat} {x : Int32} (hi : ls[i]? = some (.int x)) (hd : decode Mt.2.1 pc = .ok (.iload i, 2)) (K : gl_Ev l sc Mt (pc + 2) ls (.int x :: st) h z k n Q) : gl_Ev l sc Mt pc ls st h z k n Q := by
  intro base b D cI cB p e R s m args below meth c H locs cells slots A QW C W0 S0 hc hs hL fin
  exact lv_iload C.1 C.2.1 hd (hL.get hi rfl) (K base b D cI cB p e R s m args below meth c H locs cells slots A QW C W0 S0 hc hs hL fin)
theorem gl_r_aload_n {i : Fin 4} {x : Nat} (hi : ls[(i : Nat)]? = some (.ref x)) (hd : decode Mt.2.1 pc = .ok (.aload_n i, 1)) (K : gl_Ev l sc Mt (pc + 1) ls (.ref x :: st) h z k n Q) : gl_Ev l sc Mt pc ls st h z k n Q := by
  intro base b D cI cB p e R s m args below meth c H locs cells slots A QW C W0 S0 hc hs hL fin
  exact lv_aload_n C.1 C.2.1 hd rfl (hL.get hi rfl) (K base b D cI cB p e R s m args below meth c H locs cells slots A QW C W0 S0 hc hs hL fin)
theorem gl_r_sload_n {i : Fin 4} {x : Int64} (hi : ls[(i : Nat)]? = some (.long x)) (hd : decode Mt.2.1 pc = .ok (.aload_n i, 1)) (K : gl_Ev l sc Mt (pc + 1) ls (.long x :: st) h z k n Q) : gl_Ev l sc Mt pc ls st h z k n Q := by
  intro base b D cI cB p e R s m args below meth c H locs cells slots A QW C W0 S0 hc hs hL fin
  exact lv_aload_n C.1 C.2.1 hd rfl (hL.get hi rfl) (K base b D cI cB p e R s m args below meth c H locs cells slots A QW C W0 S0 hc hs hL fin)
theorem gl_r_aload {i : Nat} {x : Nat} (hi : ls[i]? = some (.ref x)) (hd : decode Mt.2.1 pc = .ok (.aload i, 2)) (K : gl_Ev l sc Mt (pc + 2) ls (.ref x :: st) h z k n Q) : gl_Ev l sc Mt pc ls st h z k n Q := by
  intro base b D cI cB p e R s m args below meth c H locs cells slots A QW C W0 S0 hc hs hL fin
  exact lv_aload C.1 C.2.1 hd (hL.get hi rfl) (K base b D cI cB p e R s m args below meth c H locs cells slots A QW C W0 S0 hc hs hL fin)
theorem gl_r_istore_n {i : Fin 4} {x : Int32} (hi : (i : Nat) < ls.length) (hd : decode Mt.2.1 pc = .ok (.istore_n i, 1)) (K : gl_Ev l sc Mt (pc + 1) (ls.set (i : Nat) (.int x)) st h z k n Q) : gl_Ev l sc Mt pc ls (.int x :: st) h z k n Q := by
  intro base b D cI cB p e R s m args below meth c H locs cells slots A QW C W0 S0 hc hs hL fin
  exact lv_istore_n (k := i) (i := (i : Nat)) C.1 C.2.1 hd rfl hL.1 (by rw [← hL.2]; exact hi) rfl (fun A' hA' => K base b D cI cB p e R s m args below meth c H locs cells slots A' QW C W0 S0 hc hs (hL.stored hA') fin)
theorem gl_r_istore {i : Nat} {x : Int32} (hi : i < ls.length) (hd : decode Mt.2.1 pc = .ok (.istore i, 2)) (K : gl_Ev l sc Mt (pc + 2) (ls.set i (.int x)) st h z k n Q) : gl_Ev l sc Mt pc ls (.int x :: st) h z k n Q := by
  intro base b D cI cB p e R s m args below meth c H locs cells slots A QW C W0 S0 hc hs hL fin
  exact lv_istore C.1 C.2.1 hd hL.1 (by rw [← hL.2]; exact hi) rfl (fun A' hA' => K base b D cI cB p e R s m args below meth c H locs cells slots A' QW C W0 S0 hc hs (hL.stored hA') fin)
theorem gl_r_astore_n {i : Fin 4} {x : Nat} (hi : (i : Nat) < ls.length) (hd : decode Mt.2.1 pc = .ok (.astore_n i, 1)) (K : gl_Ev l sc Mt (pc + 1) (ls.set (i : Nat) (.ref x)) st h z k n Q) : gl_Ev l sc Mt pc ls (.ref x :: st) h z k n Q := by
  intro base b D cI cB p e R s m args below meth c H locs cells slots A QW C W0 S0 hc hs hL fin
  exact lv_astore_n (k := i) (i := (i : Nat)) C.1 C.2.1 hd rfl hL.1 (by rw [← hL.2]; exact hi) rfl (fun A' hA' => K base b D cI cB p e R s m args below meth c H locs cells slots A' QW C W0 S0 hc hs (hL.stored (v := .ref x) hA') fin)
theorem gl_r_iinc {i : Nat} {a : Int} {x : Int32} (hi : ls[i]? = some (.int x)) (hd : decode Mt.2.1 pc = .ok (.iinc i a, 3)) (K : gl_Ev l sc Mt (pc + 3) (ls.set i (.int (x + Int32.ofInt a))) st h z k n Q) : gl_Ev l sc Mt pc ls st h z k n Q := by
  intro base b D cI cB p e R s m args below meth c H locs cells slots A QW C W0 S0 hc hs hL fin
  obtain ⟨q, hq⟩ := List.getElem?_of_mem (gl_lv_mem (base := base) (b := b) (ls := ls) (q := (i, .int x)) |>.mpr ⟨.int x, hi, rfl, rfl⟩)
  have hlt : i < ls.length := (List.getElem?_eq_some_iff.mp hi).1
  exact lv_iinc C.1 C.2.1 hd hL.1 hq rfl (by rw [← hL.2]; exact hlt) rfl (fun A' hA' => K base b D cI cB p e R s m args below meth c H locs cells slots A' QW C W0 S0 hc hs (hL.stored hA') fin)
theorem gl_r_iadd {x y : Int32} (hd : decode Mt.2.1 pc = .ok (.iadd, 1)) (K : gl_Ev l sc Mt (pc + 1) ls (.int (x + y) :: st) h z k n Q) : gl_Ev l sc Mt pc ls (.int y :: .int x :: st) h z k n Q := by
  intro base b D cI cB p e R s m args below meth c H locs cells slots A QW C W0 S0 hc hs hL fin
  exact lv_iadd C.1 C.2.1 hd (K base b D cI cB p e R s m args below meth c H locs cells slots A QW C W0 S0 hc hs hL fin)
theorem gl_r_isub {x y : Int32} (hd : decode Mt.2.1 pc = .ok (.isub, 1)) (K : gl_Ev l sc Mt (pc + 1) ls (.int (x - y) :: st) h z k n Q) : gl_Ev l sc Mt pc ls (.int y :: .int x :: st) h z k n Q := by
  intro base b D cI cB p e R s m args below meth c H locs cells slots A QW C W0 S0 hc hs hL fin
  exact lv_isub C.1 C.2.1 hd (K base b D cI cB p e R s m args below meth c H locs cells slots A QW C W0 S0 hc hs hL fin)
theorem gl_r_imul {x y : Int32} (hd : decode Mt.2.1 pc = .ok (.imul, 1)) (K : gl_Ev l sc Mt (pc + 1) ls (.int (x * y) :: st) h z k n Q) : gl_Ev l sc Mt pc ls (.int y :: .int x :: st) h z k n Q := by
  intro base b D cI cB p e R s m args below meth c H locs cells slots A QW C W0 S0 hc hs hL fin
  exact lv_imul C.1 C.2.1 hd (K base b D cI cB p e R s m args below meth c H locs cells slots A QW C W0 S0 hc hs hL fin)
theorem gl_r_iand {x y : Int32} (hd : decode Mt.2.1 pc = .ok (.iand, 1)) (K : gl_Ev l sc Mt (pc + 1) ls (.int (x &&& y) :: st) h z k n Q) : gl_Ev l sc Mt pc ls (.int y :: .int x :: st) h z k n Q := by
  intro base b D cI cB p e R s m args below meth c H locs cells slots A QW C W0 S0 hc hs hL fin
  exact lv_iand C.1 C.2.1 hd (K base b D cI cB p e R s m args below meth c H locs cells slots A QW C W0 S0 hc hs hL fin)
theorem gl_r_ior {x y : Int32} (hd : decode Mt.2.1 pc = .ok (.ior, 1)) (K : gl_Ev l sc Mt (pc + 1) ls (.int (x ||| y) :: st) h z k n Q) : gl_Ev l sc Mt pc ls (.int y :: .int x :: st) h z k n Q := by
  intro base b D cI cB p e R s m args below meth c H locs cells slots A QW C W0 S0 hc hs hL fin
  exact lv_ior C.1 C.2.1 hd (K base b D cI cB p e R s m args below meth c H locs cells slots A QW C W0 S0 hc hs hL fin)
theorem gl_r_ishl {x y : Int32} (hd : decode Mt.2.1 pc = .ok (.ishl, 1)) (K : gl_Ev l sc Mt (pc + 1) ls (.int (x <<< (y &&& 31)) :: st) h z k n Q) : gl_Ev l sc Mt pc ls (.int y :: .int x :: st) h z k n Q := by
  intro base b D cI cB p e R s m args below meth c H locs cells slots A QW C W0 S0 hc hs hL fin
  exact lv_ishl C.1 C.2.1 hd (K base b D cI cB p e R s m args below meth c H locs cells slots A QW C W0 S0 hc hs hL fin)
theorem gl_r_ishr {x y : Int32} (hd : decode Mt.2.1 pc = .ok (.ishr, 1)) (K : gl_Ev l sc Mt (pc + 1) ls (.int (x >>> (y &&& 31)) :: st) h z k n Q) : gl_Ev l sc Mt pc ls (.int y :: .int x :: st) h z k n Q := by
  intro base b D cI cB p e R s m args below meth c H locs cells slots A QW C W0 S0 hc hs hL fin
  exact lv_ishr C.1 C.2.1 hd (K base b D cI cB p e R s m args below meth c H locs cells slots A QW C W0 S0 hc hs hL fin)
theorem gl_r_idiv {x y : Int32} (hy : ¬ y = 0) (hd : decode Mt.2.1 pc = .ok (.idiv, 1)) (K : gl_Ev l sc Mt (pc + 1) ls (.int (x / y) :: st) h z k n Q) : gl_Ev l sc Mt pc ls (.int y :: .int x :: st) h z k n Q := by
  intro base b D cI cB p e R s m args below meth c H locs cells slots A QW C W0 S0 hc hs hL fin
  exact lv_idiv C.1 C.2.1 hd hy (K base b D cI cB p e R s m args below meth c H locs cells slots A QW C W0 S0 hc hs hL fin)
theorem gl_r_irem {x y : Int32} (hy : ¬ y = 0) (hd : decode Mt.2.1 pc = .ok (.irem, 1)) (K : gl_Ev l sc Mt (pc + 1) ls (.int (x - x / y * y) :: st) h z k n Q) : gl_Ev l sc Mt pc ls (.int y :: .int x :: st) h z k n Q := by
  intro base b D cI cB p e R s m args below meth c H locs cells slots A QW C W0 S0 hc hs hL fin
  exact lv_irem C.1 C.2.1 hd hy (K base b D cI cB p e R s m args below meth c H locs cells slots A QW C W0 S0 hc hs hL fin)
theorem gl_r_dup {v : Value} (hv : gl_is v = true) (hd : decode Mt.2.1 pc = .ok (.dup, 1)) (K : gl_Ev l sc Mt (pc + 1) ls (v :: v :: st) h z k n Q) : gl_Ev l sc Mt pc ls (v :: st) h z k n Q := by
  intro base b D cI cB p e R s m args below meth c H locs cells slots A QW C W0 S0 hc hs hL fin
  exact lv_dup C.1 C.2.1 hd (gl_cat hv) (K base b D cI cB p e R s m args below meth c H locs cells slots A QW C W0 S0 hc hs hL fin)
theorem gl_r_pop {v : Value} (hv : gl_is v = true) (hd : decode Mt.2.1 pc = .ok (.pop, 1)) (K : gl_Ev l sc Mt (pc + 1) ls st h z k n Q) : gl_Ev l sc Mt pc ls (v :: st) h z k n Q := by
  intro base b D cI cB p e R s m args below meth c H locs cells slots A QW C W0 S0 hc hs hL fin
  exact lv_pop C.1 C.2.1 hd (gl_cat hv) (K base b D cI cB p e R s m args below meth c H locs cells slots A QW C W0 S0 hc hs hL fin)
theorem gl_r_dup2 {v w : Value} (hv : gl_is v = true) (hw : gl_is w = true) (hd : decode Mt.2.1 pc = .ok (.dup2, 1)) (K : gl_Ev l sc Mt (pc + 1) ls (v :: w :: v :: w :: st) h z k n Q) : gl_Ev l sc Mt pc ls (v :: w :: st) h z k n Q := by
  intro base b D cI cB p e R s m args below meth c H locs cells slots A QW C W0 S0 hc hs hL fin
  exact lv_dup2_11 C.1 C.2.1 hd (gl_cat hv) (gl_cat hw) (K base b D cI cB p e R s m args below meth c H locs cells slots A QW C W0 S0 hc hs hL fin)
theorem gl_r_goto0 (hd : decode Mt.2.1 pc = .ok (.goto 3, 3)) (K : gl_Ev l sc Mt (pc + 3) ls st h z k n Q) : gl_Ev l sc Mt pc ls st h z k n Q := by
  intro base b D cI cB p e R s m args below meth c H locs cells slots A QW C W0 S0 hc hs hL fin
  exact lv_goto C.1 C.2.1 hd (by simp) (K base b D cI cB p e R s m args below meth c H locs cells slots A QW C W0 S0 hc hs hL fin)
theorem gl_r_goto {a : Int} {t : Nat} (ht : (pc : Int) + a = (t : Int)) (hd : decode Mt.2.1 pc = .ok (.goto a, 3)) (K : gl_Ev l sc Mt t ls st h z k n Q) : gl_Ev l sc Mt pc ls st h z k n Q := by
  intro base b D cI cB p e R s m args below meth c H locs cells slots A QW C W0 S0 hc hs hL fin
  exact lv_goto C.1 C.2.1 hd ht (K base b D cI cB p e R s m args below meth c H locs cells slots A QW C W0 S0 hc hs hL fin)
theorem gl_r_icmp_eq {a : Int} {t : Nat} {x y : Int32} (ht : (pc : Int) + a = (t : Int)) (hd : decode Mt.2.1 pc = .ok (.if_icmp .eq a, 3)) (Kt : x = y → gl_Ev l sc Mt t ls st h z k n Q) (Kf : ¬ x = y → gl_Ev l sc Mt (pc + 3) ls st h z k n Q) : gl_Ev l sc Mt pc ls (.int y :: .int x :: st) h z k n Q := by
  intro base b D cI cB p e R s m args below meth c H locs cells slots A QW C W0 S0 hc hs hL fin
  exact lv_icmp_eq C.1 C.2.1 hd ht (fun q => Kt q base b D cI cB p e R s m args below meth c H locs cells slots A QW C W0 S0 hc hs hL fin) (fun q => Kf q base b D cI cB p e R s m args below meth c H locs cells slots A QW C W0 S0 hc hs hL fin)
theorem gl_r_if_eq {a : Int} {t : Nat} {x : Int32} (ht : (pc : Int) + a = (t : Int)) (hd : decode Mt.2.1 pc = .ok (.ifCond .eq a, 3)) (Kt : x = 0 → gl_Ev l sc Mt t ls st h z k n Q) (Kf : ¬ x = 0 → gl_Ev l sc Mt (pc + 3) ls st h z k n Q) : gl_Ev l sc Mt pc ls (.int x :: st) h z k n Q := by
  intro base b D cI cB p e R s m args below meth c H locs cells slots A QW C W0 S0 hc hs hL fin
  exact lv_if_eq C.1 C.2.1 hd ht (fun q => Kt q base b D cI cB p e R s m args below meth c H locs cells slots A QW C W0 S0 hc hs hL fin) (fun q => Kf q base b D cI cB p e R s m args below meth c H locs cells slots A QW C W0 S0 hc hs hL fin)
theorem gl_r_icmp_ne {a : Int} {t : Nat} {x y : Int32} (ht : (pc : Int) + a = (t : Int)) (hd : decode Mt.2.1 pc = .ok (.if_icmp .ne a, 3)) (Kt : ¬ x = y → gl_Ev l sc Mt t ls st h z k n Q) (Kf : x = y → gl_Ev l sc Mt (pc + 3) ls st h z k n Q) : gl_Ev l sc Mt pc ls (.int y :: .int x :: st) h z k n Q := by
  intro base b D cI cB p e R s m args below meth c H locs cells slots A QW C W0 S0 hc hs hL fin
  exact lv_icmp_ne C.1 C.2.1 hd ht (fun q => Kt q base b D cI cB p e R s m args below meth c H locs cells slots A QW C W0 S0 hc hs hL fin) (fun q => Kf q base b D cI cB p e R s m args below meth c H locs cells slots A QW C W0 S0 hc hs hL fin)
theorem gl_r_if_ne {a : Int} {t : Nat} {x : Int32} (ht : (pc : Int) + a = (t : Int)) (hd : decode Mt.2.1 pc = .ok (.ifCond .ne a, 3)) (Kt : ¬ x = 0 → gl_Ev l sc Mt t ls st h z k n Q) (Kf : x = 0 → gl_Ev l sc Mt (pc + 3) ls st h z k n Q) : gl_Ev l sc Mt pc ls (.int x :: st) h z k n Q := by
  intro base b D cI cB p e R s m args below meth c H locs cells slots A QW C W0 S0 hc hs hL fin
  exact lv_if_ne C.1 C.2.1 hd ht (fun q => Kt q base b D cI cB p e R s m args below meth c H locs cells slots A QW C W0 S0 hc hs hL fin) (fun q => Kf q base b D cI cB p e R s m args below meth c H locs cells slots A QW C W0 S0 hc hs hL fin)
theorem gl_r_icmp_lt {a : Int} {t : Nat} {x y : Int32} (ht : (pc : Int) + a = (t : Int)) (hd : decode Mt.2.1 pc = .ok (.if_icmp .lt a, 3)) (Kt : x < y → gl_Ev l sc Mt t ls st h z k n Q) (Kf : ¬ x < y → gl_Ev l sc Mt (pc + 3) ls st h z k n Q) : gl_Ev l sc Mt pc ls (.int y :: .int x :: st) h z k n Q := by
  intro base b D cI cB p e R s m args below meth c H locs cells slots A QW C W0 S0 hc hs hL fin
  exact lv_icmp_lt C.1 C.2.1 hd ht (fun q => Kt q base b D cI cB p e R s m args below meth c H locs cells slots A QW C W0 S0 hc hs hL fin) (fun q => Kf q base b D cI cB p e R s m args below meth c H locs cells slots A QW C W0 S0 hc hs hL fin)
theorem gl_r_if_lt {a : Int} {t : Nat} {x : Int32} (ht : (pc : Int) + a = (t : Int)) (hd : decode Mt.2.1 pc = .ok (.ifCond .lt a, 3)) (Kt : x < 0 → gl_Ev l sc Mt t ls st h z k n Q) (Kf : ¬ x < 0 → gl_Ev l sc Mt (pc + 3) ls st h z k n Q) : gl_Ev l sc Mt pc ls (.int x :: st) h z k n Q := by
  intro base b D cI cB p e R s m args below meth c H locs cells slots A QW C W0 S0 hc hs hL fin
  exact lv_if_lt C.1 C.2.1 hd ht (fun q => Kt q base b D cI cB p e R s m args below meth c H locs cells slots A QW C W0 S0 hc hs hL fin) (fun q => Kf q base b D cI cB p e R s m args below meth c H locs cells slots A QW C W0 S0 hc hs hL fin)
theorem gl_r_icmp_ge {a : Int} {t : Nat} {x y : Int32} (ht : (pc : Int) + a = (t : Int)) (hd : decode Mt.2.1 pc = .ok (.if_icmp .ge a, 3)) (Kt : y ≤ x → gl_Ev l sc Mt t ls st h z k n Q) (Kf : ¬ y ≤ x → gl_Ev l sc Mt (pc + 3) ls st h z k n Q) : gl_Ev l sc Mt pc ls (.int y :: .int x :: st) h z k n Q := by
  intro base b D cI cB p e R s m args below meth c H locs cells slots A QW C W0 S0 hc hs hL fin
  exact lv_icmp_ge C.1 C.2.1 hd ht (fun q => Kt q base b D cI cB p e R s m args below meth c H locs cells slots A QW C W0 S0 hc hs hL fin) (fun q => Kf q base b D cI cB p e R s m args below meth c H locs cells slots A QW C W0 S0 hc hs hL fin)
theorem gl_r_if_ge {a : Int} {t : Nat} {x : Int32} (ht : (pc : Int) + a = (t : Int)) (hd : decode Mt.2.1 pc = .ok (.ifCond .ge a, 3)) (Kt : 0 ≤ x → gl_Ev l sc Mt t ls st h z k n Q) (Kf : ¬ 0 ≤ x → gl_Ev l sc Mt (pc + 3) ls st h z k n Q) : gl_Ev l sc Mt pc ls (.int x :: st) h z k n Q := by
  intro base b D cI cB p e R s m args below meth c H locs cells slots A QW C W0 S0 hc hs hL fin
  exact lv_if_ge C.1 C.2.1 hd ht (fun q => Kt q base b D cI cB p e R s m args below meth c H locs cells slots A QW C W0 S0 hc hs hL fin) (fun q => Kf q base b D cI cB p e R s m args below meth c H locs cells slots A QW C W0 S0 hc hs hL fin)
theorem gl_r_icmp_gt {a : Int} {t : Nat} {x y : Int32} (ht : (pc : Int) + a = (t : Int)) (hd : decode Mt.2.1 pc = .ok (.if_icmp .gt a, 3)) (Kt : y < x → gl_Ev l sc Mt t ls st h z k n Q) (Kf : ¬ y < x → gl_Ev l sc Mt (pc + 3) ls st h z k n Q) : gl_Ev l sc Mt pc ls (.int y :: .int x :: st) h z k n Q := by
  intro base b D cI cB p e R s m args below meth c H locs cells slots A QW C W0 S0 hc hs hL fin
  exact lv_icmp_gt C.1 C.2.1 hd ht (fun q => Kt q base b D cI cB p e R s m args below meth c H locs cells slots A QW C W0 S0 hc hs hL fin) (fun q => Kf q base b D cI cB p e R s m args below meth c H locs cells slots A QW C W0 S0 hc hs hL fin)
theorem gl_r_if_gt {a : Int} {t : Nat} {x : Int32} (ht : (pc : Int) + a = (t : Int)) (hd : decode Mt.2.1 pc = .ok (.ifCond .gt a, 3)) (Kt : 0 < x → gl_Ev l sc Mt t ls st h z k n Q) (Kf : ¬ 0 < x → gl_Ev l sc Mt (pc + 3) ls st h z k n Q) : gl_Ev l sc Mt pc ls (.int x :: st) h z k n Q := by
  intro base b D cI cB p e R s m args below meth c H locs cells slots A QW C W0 S0 hc hs hL fin
  exact lv_if_gt C.1 C.2.1 hd ht (fun q => Kt q base b D cI cB p e R s m args below meth c H locs cells slots A QW C W0 S0 hc hs hL fin) (fun q => Kf q base b D cI cB p e R s m args below meth c H locs cells slots A QW C W0 S0 hc hs hL fin)
theorem gl_r_icmp_le {a : Int} {t : Nat} {x y : Int32} (ht : (pc : Int) + a = (t : Int)) (hd : decode Mt.2.1 pc = .ok (.if_icmp .le a, 3)) (Kt : x ≤ y → gl_Ev l sc Mt t ls st h z k n Q) (Kf : ¬ x ≤ y → gl_Ev l sc Mt (pc + 3) ls st h z k n Q) : gl_Ev l sc Mt pc ls (.int y :: .int x :: st) h z k n Q := by
  intro base b D cI cB p e R s m args below meth c H locs cells slots A QW C W0 S0 hc hs hL fin
  exact lv_icmp_le C.1 C.2.1 hd ht (fun q => Kt q base b D cI cB p e R s m args below meth c H locs cells slots A QW C W0 S0 hc hs hL fin) (fun q => Kf q base b D cI cB p e R s m args below meth c H locs cells slots A QW C W0 S0 hc hs hL fin)
theorem gl_r_if_le {a : Int} {t : Nat} {x : Int32} (ht : (pc : Int) + a = (t : Int)) (hd : decode Mt.2.1 pc = .ok (.ifCond .le a, 3)) (Kt : x ≤ 0 → gl_Ev l sc Mt t ls st h z k n Q) (Kf : ¬ x ≤ 0 → gl_Ev l sc Mt (pc + 3) ls st h z k n Q) : gl_Ev l sc Mt pc ls (.int x :: st) h z k n Q := by
  intro base b D cI cB p e R s m args below meth c H locs cells slots A QW C W0 S0 hc hs hL fin
  exact lv_if_le C.1 C.2.1 hd ht (fun q => Kt q base b D cI cB p e R s m args below meth c H locs cells slots A QW C W0 S0 hc hs hL fin) (fun q => Kf q base b D cI cB p e R s m args below meth c H locs cells slots A QW C W0 S0 hc hs hL fin)
end GLR
end
section
theorem gl_okc_all : ∀ (ci : Nat) (q : vw_C), gl_cls[ci]? = some q → ∃ ty : Nat → FieldType, gl_okc q ty := by
  intro ci q hq
  match ci, hq with
  | 0, hq => cases hq; exact ⟨_, gl_okc0⟩
  | 1, hq => cases hq; exact ⟨_, gl_okc1⟩
  | 2, hq => cases hq; exact ⟨_, gl_okc2⟩
  | 3, hq => cases hq; exact ⟨_, gl_okc3⟩
  | 4, hq => cases hq; exact ⟨_, gl_okc4⟩
  | 5, hq => cases hq; exact ⟨_, gl_okc5⟩
  | 6, hq => cases hq; exact ⟨_, gl_okc6⟩
  | 7, hq => cases hq; exact ⟨_, gl_okc7⟩
  | 8, hq => cases hq; exact ⟨_, gl_okc8⟩
  | 9, hq => cases hq; exact ⟨_, gl_okc9⟩
  | 10, hq => cases hq; exact ⟨_, gl_okc10⟩
  | 11, hq => cases hq; exact ⟨_, gl_okc11⟩
  | k + 12, hq => simp [gl_cls] at hq
section GLS
variable {l : Launch} {sc : Nat × (Nat → Int32)} {Mt : gl_M} {pc : Nat} {ls st : List Value} {h : List gl_E} {z : Bool} {k n : Nat} {Q : Option Value → List gl_E → Prop}
/-- a field's link, plain or to a nest mate -/
def gl_fl (own : String) (idx : Nat) (T : u_T) (j : Nat) : Prop := Cond.fieldLink own idx (T j).1 (T j).2.1 (T j).2.2.1 ∈ gl_tb ∨ Cond.fieldLinkNest own idx (T j).1 (T j).2.1 (T j).2.2.1 "ModeCells" ∈ gl_tb
theorem gl_r_get {o ci j idx : Nat} {q : vw_C} {fs : List Value} {v : Value} (hcl : gl_cls[ci]? = some q) (hj : j < q.2.2) (hw : gl_fl Mt.1.cls idx q.2.1 j) (ho : h[o]? = some (.inr (ci, fs))) (hv : fs[j]? = some v) (hd : decode Mt.2.1 pc = .ok (.getfield idx, 3)) (K : gl_Ev l sc Mt (pc + 3) ls (v :: st) h z k n Q) : gl_Ev l sc Mt pc ls (.ref o :: st) h z k n Q := by
  intro base b D cI cB p e R s m args below meth c H locs cells slots A QW C W0 S0 hc hs hL fin
  obtain ⟨ty, hin, -⟩ := gl_okc_all ci q hcl
  have hv' : (fs.map (gl_mv base b))[j]? = some (gl_mv base b v) := by rw [List.getElem?_map, hv]; rfl
  have K' := K base b D cI cB p e R s m args below meth c H locs cells slots A QW C W0 S0 hc hs hL fin
  rcases hw with hw | hw
  · exact va_get (C := q.1) (T := q.2.1) (N := q.2.2) C.1 C.2.1 C.2.2.2.2.2.1 hin C.2.2.2.2.1 C.2.2.2.2.2.2.1 W0.1 o (gl_ws_at ho) hcl j hj (C.2.2.2.2.2.1 _ hw) (fun _ h9 => h9) hv' hd K'
  · exact va_getN (C := q.1) (T := q.2.1) (N := q.2.2) C.1 C.2.1 C.2.2.2.2.2.1 hin C.2.2.2.2.1 C.2.2.2.2.2.2.1 W0.1 o (gl_ws_at ho) hcl j hj (C.2.2.2.2.2.1 _ hw) (fun _ h9 => h9) hv' hd K'
/-- a value that a field of a type takes -/
def gl_tk (ty : FieldType) (v : Value) : Prop := (ty = .int ∧ ∃ x, v = .int x) ∨ (ty = .boolean ∧ ∃ x : Int32, v = .int x ∧ (x = 0 ∨ x = 1)) ∨ (((∃ c, ty = .object c) ∨ ∃ t, ty = .array t) ∧ ∃ a, v = .ref a)
theorem gl_narrow_b {x : Int32} (h : x = 0 ∨ x = 1) : narrow .boolean (.int x) = .int x := by rcases h with rfl | rfl <;> rfl
theorem gl_tk_ok {base b : Nat} {ty : FieldType} {v : Value} (h : gl_tk ty v) : narrow ty (gl_mv base b v) = gl_mv base b v ∧ fits ty (gl_mv base b v) = true := by
  rcases h with ⟨rfl, x, rfl⟩ | ⟨rfl, x, rfl, hx⟩ | ⟨⟨c, rfl⟩ | ⟨t, rfl⟩, a, rfl⟩
  · exact ⟨rfl, rfl⟩
  · exact ⟨gl_narrow_b hx, by rcases hx with rfl | rfl <;> rfl⟩
  · exact ⟨rfl, rfl⟩
  · exact ⟨rfl, rfl⟩
theorem gl_r_put {o ci j idx : Nat} {q : vw_C} {fs : List Value} {v : Value} (hcl : gl_cls[ci]? = some q) (hj : j < q.2.2) (hw : gl_fl Mt.1.cls idx q.2.1 j) (hfin : (q.2.1 j).2.2.2 = false ∨ (Cond.fieldLink Mt.1.cls idx (q.2.1 j).1 (q.2.1 j).2.1 (q.2.1 j).2.2.1 ∈ gl_tb ∧ Mt.1.name = "<init>" ∧ (q.2.1 j).1 = Mt.1.cls)) (ho : h[o]? = some (.inr (ci, fs))) (hl : j < fs.length)
    (hty : ∀ ty, parseFieldDescriptor (q.2.1 j).2.2.1 = some ty → gl_tk ty v) (hd : decode Mt.2.1 pc = .ok (.putfield idx, 3)) (K : gl_Ev l sc Mt (pc + 3) ls st (h.set o (.inr (ci, fs.set j v))) z k n Q) : gl_Ev l sc Mt pc ls (v :: .ref o :: st) h z k n Q := by
  intro base b D cI cB p e R s m args below meth c H locs cells slots A QW C W0 S0 hc hs hL fin
  obtain ⟨Cn, T, N⟩ := q
  obtain ⟨ty0, hin, hty0, hnm, -⟩ := gl_okc_all ci _ hcl
  dsimp only at hin hty0 hnm hj hw hfin hty
  have hts := C.2.2.2.2.2.1
  have hK := C.2.2.2.2.2.2.1
  have hown := C.2.2.2.2.1
  have hD := gl_D base b cI cB h
  have hap := va_apart (own := Cn) hts hin ty0 hty0 hnm hK hcl
  have he := gl_ws_at (base := base) (b := b) (cI := cI) (cB := cB) ho
  obtain ⟨r, h1, cell, q1, q2, q3, q4⟩ := W0.1 o _ he
  have hr : r = (Cn, T, N) := Option.some.inj (h1.symm.trans hcl)
  subst hr
  obtain ⟨hS, hfc, kC, hkC, hkind⟩ := hK.1 ci _ hcl
  obtain ⟨cf, kf, fi, f, hi, hsl⟩ := hS j hj
  have hst := (u_facts hfc hkC (u_lays hts hin hj) hi).1
  have htk := gl_tk_ok (base := base) (b := b) (hty _ (hty0 j hj))
  have hlay := hts _ (hin _ (u_in_lay hj))
  unfold u_lay at hlay
  have kk : ∀ H' : Heap, H'[base + o]? = some (cell.setSlot f.slot (gl_mv base b v)) → H'.size = H.size → (∀ q, q ≠ base + o → H'[q]? = H[q]?) → W p l e R s m args below meth c H' (locs ++ [⟨base + o, f.slot⟩]) cells slots QW (F0 m (pc + 3) A (st.map (gl_mv base b))) := by
    intro H' e1 e2 e3
    rw [hsl] at e1 ⊢
    have hl' : j < (fs.map (gl_mv base b)).length := by rw [List.length_map]; exact hl
    have hP := W0.1.set hD he (e := .inr (ci, (fs.map (gl_mv base b)).set j (gl_mv base b v))) ⟨_, hcl, t_OB.to (V := updV (vp_V (fs.map (gl_mv base b))) j (gl_mv base b v)) ⟨_, e1, q2, q3, t_set q4 hap hj (gl_mv base b v)⟩ (fun i _ => vp_updV_set hl' (gl_mv base b v) i)⟩ e3
    have hset : (gl_ws base b cI cB h).set o (base + o, .inr (ci, (fs.map (gl_mv base b)).set j (gl_mv base b v))) = gl_ws base b cI cB (h.set o (.inr (ci, fs.set j v))) := by
      rw [← gl_ws_set]
      simp only [gl_e, List.map_set]
    rw [hset] at hP
    exact K base b D cI cB p e R s m args below meth c H' _ cells slots A QW C ⟨hP, fun hz => by rw [e2, List.length_set]; exact W0.2 hz⟩ (S0.put e2 e3 (Nat.le_add_right _ _)) hc hs hL fin
  by_cases hfn : (T j).2.2.2 = true
  · rcases hfin with hfin | ⟨hw1, hn1, hn2⟩
    · rw [hfn] at hfin; cases hfin
    · rw [if_pos hfn] at hlay
      have hcf : m.cls = cf := by
        obtain ⟨_, _, c', _, _, _, -, -, hf', -, -, -, hown2, -⟩ := Cond.laysFinal_spec hlay
        have e1 : c' = cf := by have := hi.symm.trans hf'; simp at this; exact this.1.symm
        rw [hn2] at hown2
        rw [← e1]; exact Option.some.inj (hown.symm.trans hown2)
      have h6 := u_fits hfc hkC hkind (Or.inr hlay) hi (hty0 j hj) htk.1 htk.2
      exact W.putFinK C.1 C.2.1 hown (hts _ hw1) hi hst hcf (C.2.2.2.2.2.2.2.2.2.2.1 hn1) (by rw [q2]; exact h6) q1 q3 (by rw [hsl]; exact k2_hasslot (q4 j hj)) rfl rfl hd kk
  · rw [if_neg hfn] at hlay
    have h6 := u_store hfc hkC hkind hlay hi (hty0 j hj) htk.1 htk.2
    rcases hw with hw | hw
    · exact W.putK C.1 C.2.1 (f := f) ⟨hown, hts _ hw, ⟨_, _, _, hi⟩, hst⟩ (by rw [q2]; exact h6) q1 q3 (by rw [hsl]; exact k2_hasslot (q4 j hj)) rfl rfl hd kk
    · exact va_WputK C.1 C.2.1 hown (hts _ hw) hi hst (by rw [q2]; exact h6) q1 q3 (by rw [hsl]; exact k2_hasslot (q4 j hj)) rfl rfl hd kk
end GLS
end
section
section GLA
variable {l : Launch} {sc : Nat × (Nat → Int32)} {Mt : gl_M} {pc : Nat} {ls st : List Value} {h : List gl_E} {z : Bool} {k n : Nat} {Q : Option Value → List gl_E → Prop}
theorem gl_catsum (base b : Nat) (l : List Value) : ((l.map (gl_mv base b)).map fun v => v.category).sum ≤ 2 * l.length := by
  induction l with
  | nil => simp
  | cons v r ih =>
    have hv : (gl_mv base b v).category ≤ 2 := by rcases lv_cat (gl_mv base b v) with h | h <;> omega
    simp only [List.map_cons, List.sum_cons, List.length_cons]
    omega
theorem gl_r_iald {a nn : Nat} {f : Nat → Int32} {i : Int32} (ha : h[a]? = some (.inl (false, nn, f))) (hi : vp_in i nn) (hd : decode Mt.2.1 pc = .ok (.iaload, 1)) (K : gl_Ev l sc Mt (pc + 1) ls (.int (f i.toNatClampNeg) :: st) h z k n Q) : gl_Ev l sc Mt pc ls (.int i :: .ref a :: st) h z k n Q := by
  intro base b D cI cB p e R s m args below meth c H locs cells slots A QW C W0 S0 hc hs hL fin
  exact va_iald C.1 C.2.1 C.2.2.2.2.2.2.1 W0.1 a 0 (gl_ws_at ha) rfl hi hd (K base b D cI cB p e R s m args below meth c H locs cells slots A QW C W0 S0 hc hs hL fin)
theorem gl_r_zald {a nn : Nat} {f : Nat → Int32} {i : Int32} (ha : h[a]? = some (.inl (true, nn, f))) (hi : vp_in i nn) (hd : decode Mt.2.1 pc = .ok (.baload, 1)) (K : gl_Ev l sc Mt (pc + 1) ls (.int (f i.toNatClampNeg) :: st) h z k n Q) : gl_Ev l sc Mt pc ls (.int i :: .ref a :: st) h z k n Q := by
  intro base b D cI cB p e R s m args below meth c H locs cells slots A QW C W0 S0 hc hs hL fin
  exact va_zald C.1 C.2.1 C.2.2.2.2.2.2.1 W0.1 a 1 (gl_ws_at ha) rfl hi hd (K base b D cI cB p e R s m args below meth c H locs cells slots A QW C W0 S0 hc hs hL fin)
theorem gl_r_sald {t : Int64} {i : Int32} (hi : vp_in i sc.1) (hd : decode Mt.2.1 pc = .ok (.iaload, 1)) (K : gl_Ev l sc Mt (pc + 1) ls (.int (sc.2 i.toNatClampNeg) :: st) h z k n Q) : gl_Ev l sc Mt pc ls (.int i :: .long t :: st) h z k n Q := by
  intro base b D cI cB p e R s m args below meth c H locs cells slots A QW C W0 S0 hc hs hL fin
  exact va_sld C.1 C.2.1 C.2.2.2.2.2.2.2.1 (Nat.lt_of_lt_of_le C.2.2.2.2.2.2.2.2.1 C.2.2.2.2.2.2.2.2.2.1) (Nat.not_le.mpr C.2.2.2.2.2.2.2.2.1) S0 hi hd (K base b D cI cB p e R s m args below meth c H locs cells slots A QW C W0 S0 hc hs hL fin)
theorem gl_r_slen {t : Int64} (hd : decode Mt.2.1 pc = .ok (.arraylength, 1)) (K : gl_Ev l sc Mt (pc + 1) ls (.int (Int32.ofNat sc.1) :: st) h z k n Q) : gl_Ev l sc Mt pc ls (.long t :: st) h z k n Q := by
  intro base b D cI cB p e R s m args below meth c H locs cells slots A QW C W0 S0 hc hs hL fin
  exact va_slen C.1 C.2.1 C.2.2.2.2.2.2.2.1 (Nat.lt_of_lt_of_le C.2.2.2.2.2.2.2.2.1 C.2.2.2.2.2.2.2.2.2.1) (Nat.not_le.mpr C.2.2.2.2.2.2.2.2.1) S0 hd (K base b D cI cB p e R s m args below meth c H locs cells slots A QW C W0 S0 hc hs hL fin)
theorem gl_r_alen {a nn : Nat} {bz : Bool} {f : Nat → Int32} (ha : h[a]? = some (.inl (bz, nn, f))) (hd : decode Mt.2.1 pc = .ok (.arraylength, 1)) (K : gl_Ev l sc Mt (pc + 1) ls (.int (Int32.ofNat nn) :: st) h z k n Q) : gl_Ev l sc Mt pc ls (.ref a :: st) h z k n Q := by
  intro base b D cI cB p e R s m args below meth c H locs cells slots A QW C W0 S0 hc hs hL fin
  have K' := K base b D cI cB p e R s m args below meth c H locs cells slots A QW C W0 S0 hc hs hL fin
  cases bz with
  | false => exact va_alen C.1 C.2.1 C.2.2.2.2.2.2.1 W0.1 a 0 (gl_ws_at ha) rfl rfl hd K'
  | true => exact va_alen C.1 C.2.1 C.2.2.2.2.2.2.1 W0.1 a 1 (gl_ws_at ha) rfl rfl hd K'
theorem gl_r_iast {a nn : Nat} {f : Nat → Int32} {i x : Int32} (ha : h[a]? = some (.inl (false, nn, f))) (hi : vp_in i nn) (hd : decode Mt.2.1 pc = .ok (.iastore, 1)) (K : gl_Ev l sc Mt (pc + 1) ls st (h.set a (.inl (false, nn, upd f i.toNatClampNeg x))) z k n Q) : gl_Ev l sc Mt pc ls (.int x :: .int i :: .ref a :: st) h z k n Q := by
  intro base b D cI cB p e R s m args below meth c H locs cells slots A QW C W0 S0 hc hs hL fin
  have he := gl_ws_at (base := base) (b := b) (cI := cI) (cB := cB) ha
  have hD := gl_D base b cI cB h
  refine W.iast C.1 C.2.1 (W0.1 a _ he) ((C.2.2.2.2.2.2.1.2 0 _ rfl).1 nn (fun j => .int (f j))) (fun q => by cases q) (by show ¬ (i < 0 ∨ (arrV _ _ _).slots.size ≤ _); rw [arrV_size]; exact hi) rfl rfl hd fun H1 e1 z1 oq => ?_
  have hP := W0.1.set hD he (H1 := H1) (e := gl_e base b cI cB (.inl (false, nn, upd f i.toNatClampNeg x))) (by
    show H1[base + a]? = some (vp_cell _ _)
    rw [e1]
    show some ((vp_cell cI (nn, .inl f)).setSlot _ _) = some (vp_cell cI (nn, .inl _))
    rw [vp_cell_i, vp_cell_i, arrV_store]
    congr 2
    funext q
    by_cases hq : q = i.toNatClampNeg
    · subst hq; simp [updV, upd]
    · simp [updV, upd, hq]) oq
  rw [gl_ws_set] at hP
  exact K base b D cI cB p e R s m args below meth c H1 _ cells slots A QW C ⟨hP, fun hz => by rw [z1, List.length_set]; exact W0.2 hz⟩ (S0.put z1 oq (Nat.le_add_right _ _)) hc hs hL fin
theorem gl_r_zast {a nn : Nat} {f : Nat → Int32} {i x : Int32} (hz : z = false) (ha : h[a]? = some (.inl (true, nn, f))) (hi : vp_in i nn) (hd : decode Mt.2.1 pc = .ok (.bastore, 1)) (K : gl_Ev l sc Mt (pc + 1) ls st (h.set a (.inl (true, nn, upd f i.toNatClampNeg (vp_nar .boolean x)))) z k n Q) : gl_Ev l sc Mt pc ls (.int x :: .int i :: .ref a :: st) h z k n Q := by
  intro base b D cI cB p e R s m args below meth c H locs cells slots A QW C W0 S0 hc hs hL fin
  subst hz
  have he := gl_ws_at (base := base) (b := b) (cI := cI) (cB := cB) ha
  refine va_zast C.1 C.2.1 C.2.2.2.2.2.2.1 W0.1 (gl_D base b cI cB h) S0 a 1 he rfl hi hd fun H1 locs1 hP hD hS => ?_
  have hP' : va_P D gl_cls ((gl_ws base b cI cB h).set a (base + a, gl_e base b cI cB (.inl (true, nn, upd f i.toNatClampNeg (vp_nar .boolean x))))) H1 := hP
  rw [gl_ws_set] at hP'
  exact K base b D cI cB p e R s m args below meth c H1 _ cells slots A QW C ⟨hP', fun hz => by cases hz⟩ hS hc hs hL fin
theorem gl_r_copy {a a' nn nn' : Nat} {f g : Nat → Int32} {sp dp cn : Int32} {idx : Nat} (hz : z = false) (hw : Cond.methodLink Mt.1.cls idx arraycopyName ∈ gl_tb) (hn1 : Cond.native arraycopyName ∈ gl_tb) (hn2 : Cond.static arraycopyName ∈ gl_tb) (hn3 : Cond.initialized "java/lang/System" ∈ gl_tb)
    (ha : h[a]? = some (.inl (false, nn, f))) (ha' : h[a']? = some (.inl (false, nn', g))) (h1 : ¬ sp < 0) (h2 : ¬ dp < 0) (h3 : ¬ cn < 0) (h4 : sp.toNatClampNeg + cn.toNatClampNeg ≤ nn) (h5 : dp.toNatClampNeg + cn.toNatClampNeg ≤ nn') (hr1 : 1 ≤ Mt.2.2.2.2.1) (hr2 : 2 * st.length + 18 ≤ Mt.2.2.2.2.2) (hd : decode Mt.2.1 pc = .ok (.invokestatic idx, 3))
    (K : gl_Ev l sc Mt (pc + 3) ls st (h.set a' (.inl (false, nn', va_cpy f g sp.toNatClampNeg dp.toNatClampNeg cn.toNatClampNeg))) z k n Q) : gl_Ev l sc Mt pc ls (.int cn :: .int dp :: .ref a' :: .int sp :: .ref a :: st) h z k n Q := by
  intro base b D cI cB p e R s m args below meth c H locs cells slots A QW C W0 S0 hc hs hL fin
  subst hz
  have hts := C.2.2.2.2.2.1
  have hsum := gl_catsum base b st
  have hR1 := C.2.2.2.2.2.2.2.2.2.2.2.1
  have hR2 := C.2.2.2.2.2.2.2.2.2.2.2.2
  have h7 : nativeFrameWords "java/lang/System" "arraycopy" 5 = 7 := by decide
  refine va_copyi (rest := st.map (gl_mv base b)) C.1 C.2.1 (by rw [C.2.2.2.1]; exact hL.1.1.symm) C.2.2.2.2.1 (hts _ hw) (hts _ hn1) (hts _ hn2) (hts _ hn3) C.2.2.2.2.2.2.1 W0.1 (gl_D base b cI cB h) S0 a a' 0 0 (gl_ws_at ha) (gl_ws_at ha') rfl rfl rfl h1 h2 h3 h4 h5 (fun _ _ => rfl) (Nat.le_trans hr1 hR1) (by rw [h7]; omega) hd fun H1 locs1 hP hD hS => ?_
  have hP' : va_P D gl_cls ((gl_ws base b cI cB h).set a' (base + a', gl_e base b cI cB (.inl (false, nn', va_cpy f g sp.toNatClampNeg dp.toNatClampNeg cn.toNatClampNeg)))) H1 := hP
  rw [gl_ws_set] at hP'
  exact K base b D cI cB p e R s m args below meth c H1 _ cells slots A QW C ⟨hP', fun hz => by cases hz⟩ hS hc hs hL fin
theorem gl_r_min {x y : Int32} {idx : Nat} (hw : Cond.methodLink Mt.1.cls idx Lib.Math.min.name ∈ gl_tb) (hn1 : Cond.static Lib.Math.min.name ∈ gl_tb) (hn2 : Cond.initialized "java/lang/Math" ∈ gl_tb) (hn3 : Cond.code Lib.Math.min.name Lib.Math.min.code 2 (some .int) ∈ gl_tb)
    (hr1 : 1 ≤ Mt.2.2.2.2.1) (hr2 : 2 * st.length + 13 ≤ Mt.2.2.2.2.2) (hd : decode Mt.2.1 pc = .ok (.invokestatic idx, 3)) (K : gl_Ev l sc Mt (pc + 3) ls (.int (if y < x then y else x) :: st) h z k n Q) : gl_Ev l sc Mt pc ls (.int y :: .int x :: st) h z k n Q := by
  intro base b D cI cB p e R s m args below meth c H locs cells slots A QW C W0 S0 hc hs hL fin
  have hts := C.2.2.2.2.2.1
  have hsum := gl_catsum base b st
  have hR1 := C.2.2.2.2.2.2.2.2.2.2.2.1
  have hR2 := C.2.2.2.2.2.2.2.2.2.2.2.2
  exact va_mmin C.1 C.2.1 (by rw [C.2.2.2.1]; exact hL.1.1.symm) C.2.2.2.2.1 (hts _ hw) (hts _ hn1) (hts _ hn2) (hts _ hn3) (Nat.le_trans hr1 hR1) (by omega) (by omega) (by omega) hd (K base b D cI cB p e R s m args below meth c H locs cells slots A QW C W0 S0 hc hs hL fin)
theorem gl_r_obj {a : Nat} {idx : Nat} (hw : Cond.methodLink Mt.1.cls idx Lib.objectInit ∈ gl_tb) (hn1 : Cond.instanceMethod Lib.objectInit ∈ gl_tb) (hn2 : Cond.code Lib.objectInit ⟨#[0xb1]⟩ 1 none ∈ gl_tb)
    (hr1 : 1 ≤ Mt.2.2.2.2.1) (hr2 : 2 * st.length + 12 ≤ Mt.2.2.2.2.2) (hd : decode Mt.2.1 pc = .ok (.invokespecial idx, 3)) (K : gl_Ev l sc Mt (pc + 3) ls st h z k n Q) : gl_Ev l sc Mt pc ls (.ref a :: st) h z k n Q := by
  intro base b D cI cB p e R s m args below meth c H locs cells slots A QW C W0 S0 hc hs hL fin
  have hts := C.2.2.2.2.2.1
  have hsum := gl_catsum base b st
  have hR1 := C.2.2.2.2.2.2.2.2.2.2.2.1
  have hR2 := C.2.2.2.2.2.2.2.2.2.2.2.2
  have h0 : (F0 m pc A ((Value.ref a :: st).map (gl_mv base b))).monitorRoom = 0 := rfl
  exact W.objInit (rest := st.map (gl_mv base b)) C.1 C.2.1 C.2.2.2.2.1 (hts _ hw) (hts _ hn1) (hts _ hn2) rfl (by rw [C.2.2.2.1]; exact hL.1.1) rfl hd (Nat.le_trans hr1 hR1) (by rw [h0]; omega) (K base b D cI cB p e R s m args below meth c H locs cells slots A QW C W0 S0 hc hs hL fin)
theorem gl_Wpush {base b cI cB : Nat} {D : va_G} {h : List gl_E} {H H1 : Heap} (W0 : gl_Wd base b D cI cB true h H) (e : gl_E) (he : va_at D gl_cls (base + h.length, gl_e base b cI cB e) H1) (z1 : H1.size = H.size + 1) (o1 : ∀ q, q < H.size → H1[q]? = H[q]?) : gl_Wd base b D cI cB true (h ++ [e]) H1 := by
  refine ⟨?_, fun _ => by rw [z1, W0.2 rfl, List.length_append]; rfl⟩
  rw [gl_ws_app]
  refine (W0.1.kept (fun j q hq => o1 q.1 ((W0.1 j q hq).lt))).app (fun j q hq => ?_)
  have hj : j < 1 := (List.getElem?_eq_some_iff.mp hq).1
  rw [show j = 0 by omega] at hq
  cases hq
  exact he
theorem gl_r_newi {i : Int32} {N k' n' : Nat} (hw : Cond.arrayClass .int ∈ gl_tb) (hz : z = true) (hi : ¬ i < 0) (hN : i.toNatClampNeg = N) (hN2 : N ≤ 65536) (hk : k' + 1 ≤ k) (hn : n' + N ≤ n) (hd : decode Mt.2.1 pc = .ok (.newarray .int, 2)) (K : gl_Ev l sc Mt (pc + 2) ls (.ref h.length :: st) (h ++ [.inl (false, N, fun _ => 0)]) z k' n' Q) : gl_Ev l sc Mt pc ls (.int i :: st) h z k n Q := by
  intro base b D cI cB p e R s m args below meth c H locs cells slots A QW C W0 S0 hc hs hL fin
  subst hz
  have hts := C.2.2.2.2.2.1
  have hcls : s.vm.findClass ("[" ++ FieldType.int.toString) = some cI := (C.2.2.2.2.2.2.1.2 0 _ rfl).2
  refine va_newaK (atype := .int) C.1 C.2.1 (hts _ hw) rfl hd rfl hi hN (by show N * 4 ≤ _; omega) (by omega) (by omega) (W0.2 rfl) fun H1 cA e1 z1 o1 hAr hNm => ?_
  have hcA : cA = cI := Option.some.inj (hNm.symm.trans hcls)
  subst hcA
  have W1 := gl_Wpush (H1 := H1) W0 (.inl (false, N, fun _ => 0)) (by show H1[base + h.length]? = some (vp_cell _ _); rw [e1]; rfl) (by rw [z1, W0.2 rfl]) (fun q hq => o1 q (by rw [W0.2 rfl] at hq; exact hq))
  exact K base b D cA cB p e R s m args below meth c H1 locs (cells + 1) (slots + N) A QW C W1 ⟨Nat.le_trans S0.1 (by have := W0.2 rfl; omega), fun q q1 q2 => (o1 q (by have := W0.2 rfl; have := S0.1; omega)).trans (S0.2.1 q q1 q2), S0.2.2⟩ (by omega) (by omega) hL fin
theorem gl_r_newz {i : Int32} {N k' n' : Nat} (hw : Cond.arrayClass .boolean ∈ gl_tb) (hz : z = true) (hi : ¬ i < 0) (hN : i.toNatClampNeg = N) (hN2 : N ≤ 65536) (hk : k' + 1 ≤ k) (hn : n' + N ≤ n) (hd : decode Mt.2.1 pc = .ok (.newarray .boolean, 2)) (K : gl_Ev l sc Mt (pc + 2) ls (.ref h.length :: st) (h ++ [.inl (true, N, fun _ => 0)]) z k' n' Q) : gl_Ev l sc Mt pc ls (.int i :: st) h z k n Q := by
  intro base b D cI cB p e R s m args below meth c H locs cells slots A QW C W0 S0 hc hs hL fin
  subst hz
  have hts := C.2.2.2.2.2.1
  have hcls : s.vm.findClass ("[" ++ FieldType.boolean.toString) = some cB := (C.2.2.2.2.2.2.1.2 1 _ rfl).2
  refine va_newaK (atype := .boolean) C.1 C.2.1 (hts _ hw) rfl hd rfl hi hN (by show N * 1 ≤ _; omega) (by omega) (by omega) (W0.2 rfl) fun H1 cA e1 z1 o1 hAr hNm => ?_
  have hcA : cA = cB := Option.some.inj (hNm.symm.trans hcls)
  subst hcA
  have W1 := gl_Wpush (H1 := H1) W0 (.inl (true, N, fun _ => 0)) (by show H1[base + h.length]? = some (vp_cell _ _); rw [e1]; rfl) (by rw [z1, W0.2 rfl]) (fun q hq => o1 q (by rw [W0.2 rfl] at hq; exact hq))
  exact K base b D cI cA p e R s m args below meth c H1 locs (cells + 1) (slots + N) A QW C W1 ⟨Nat.le_trans S0.1 (by have := W0.2 rfl; omega), fun q q1 q2 => (o1 q (by have := W0.2 rfl; have := S0.1; omega)).trans (S0.2.1 q q1 q2), S0.2.2⟩ (by omega) (by omega) hL fin
theorem gl_r_new {ci idx k' n' : Nat} {q : vw_C} {fs : List Value} (hcl : gl_cls[ci]? = some q) (hw : Cond.classLink Mt.1.cls idx q.1 ∈ gl_tb) (hfs : ∀ j ty, j < q.2.2 → parseFieldDescriptor (q.2.1 j).2.2.1 = some ty → fs[j]? = some (defaultValue ty) ∧ ∀ base b, gl_mv base b (defaultValue ty) = defaultValue ty) (hz : z = true) (hk : k' + 1 ≤ k) (hn : n' + q.2.2 ≤ n) (hd : decode Mt.2.1 pc = .ok (.new idx, 3)) (K : gl_Ev l sc Mt (pc + 3) ls (.ref h.length :: st) (h ++ [.inr (ci, fs)]) z k' n' Q) : gl_Ev l sc Mt pc ls st h z k n Q := by
  intro base b D cI cB p e R s m args below meth c H locs cells slots A QW C W0 S0 hc hs hL fin
  subst hz
  obtain ⟨ty0, hin, hty0, hnm, hi1, hi2, -⟩ := gl_okc_all ci _ hcl
  have hts := C.2.2.2.2.2.1
  have hKn := C.2.2.2.2.2.2.1.1 ci _ hcl
  refine W.newcK C.1 C.2.1 C.2.2.2.2.1 (hts _ hw) (hts _ hi1) (hts _ hi2) rfl hd (by omega) (by omega) hKn.2.1 (W0.2 rfl) fun H1 kC hkC e1 z1 o1 => ?_
  have W1 := gl_Wpush (H1 := H1) W0 (.inr (ci, fs)) ⟨_, hcl, (u_born ty0 hts hin hKn hkC e1 hty0).to (fun j hj => by
    obtain ⟨f1, f2⟩ := hfs j _ hj (hty0 j hj)
    simp only [vp_V, List.getD_eq_getElem?_getD, List.getElem?_map, f1, Option.map_some, Option.getD_some]
    exact (f2 base b).symm)⟩ (by rw [z1, W0.2 rfl]) (fun q hq => o1 q (by rw [W0.2 rfl] at hq; exact hq))
  exact K base b D cI cB p e R s m args below meth c H1 locs (cells + 1) (slots + q.2.2) A QW C W1 ⟨Nat.le_trans S0.1 (by have := W0.2 rfl; omega), fun q q1 q2 => (o1 q (by have := W0.2 rfl; have := S0.1; omega)).trans (S0.2.1 q q1 q2), S0.2.2⟩ (by omega) (by omega) hL fin
end GLA
end
section
/-! CONTRACTS: a method, called with these arguments over these cells, returns with Q -/
def gl_Pc (sc : Nat × (Nat → Int32)) (base b : Nat) (D : va_G) (cI cB : Nat) (z : Bool) (av : List Value) (h : List gl_E) : Array Value → State → Prop := fun v U => v = (av.map (gl_mv base b)).toArray ∧ gl_Wd base b D cI cB z h U.heap ∧ va_K D gl_cls (gl_tys cI cB) U ∧ va_X b sc.1 sc.2 U U.heap ∧ b < base ∧ base ≤ U.heap.size
def gl_Qc (base b : Nat) (D : va_G) (cI cB : Nat) (z : Bool) (Q : Option Value → List gl_E → Prop) : Array Value → State → Outcome → State → Prop := fun _ st o t => ∃ (r : Option Value) (h' : List gl_E), o = .returned (r.map (gl_mv base b)) ∧ Q r h' ∧ gl_Wd base b D cI cB z h' t.heap ∧ va_F (fun q : Nat => base ≤ q) st t
def gl_wsM (Mt : gl_M) : List Cond := Cond.code Mt.1 Mt.2.1 Mt.2.2.1 Mt.2.2.2.1 :: gl_tb
def gl_rm (Mt : gl_M) (k n : Nat) : Room := { frames := Mt.2.2.2.2.1, cells := k, slots := n, locals := Mt.2.2.2.2.2 }
def gl_Ret (l : Launch) (sc : Nat × (Nat → Int32)) (Mt : gl_M) (av : List Value) (h : List gl_E) (z : Bool) (k n : Nat) (Q : Option Value → List gl_E → Prop) : Prop :=
  ∀ (base b : Nat) (D : va_G) (cI cB : Nat), Met l Mt.1 (gl_wsM Mt) (gl_rm Mt k n) (gl_Pc sc base b D cI cB z av h) (gl_Qc base b D cI cB z Q) k n (fun q : Nat => base ≤ q)
section GLC
variable {l : Launch} {sc : Nat × (Nat → Int32)} {Mt : gl_M} {pc : Nat} {ls st : List Value} {h : List gl_E} {z : Bool} {k n : Nat} {Q : Option Value → List gl_E → Prop}
theorem gl_args_mem : ∀ (vs : List Value) (i j : Nat) (v : Value), (∀ w ∈ vs, w.category = 1) → vs[j]? = some v → (i + j, v) ∈ lv_args i vs := by
  intro vs
  induction vs with
  | nil => intro i j v _ h; cases h
  | cons w r ih =>
    intro i j v hc h
    have hw : w.category = 1 := hc w List.mem_cons_self
    cases j with
    | zero => cases h; exact List.mem_cons_self
    | succ j =>
      refine List.mem_cons_of_mem _ ?_
      rw [if_neg (by rw [hw]; decide)]
      have := ih (i + 1) j v (fun u hu => hc u (List.mem_cons_of_mem _ hu)) h
      rw [show i + (j + 1) = i + 1 + j by omega]
      exact this
theorem gl_sl_len : ∀ (vs : List Value), (∀ w ∈ vs, w.category = 1) → (lg_sl vs).length = vs.length := by
  intro vs
  induction vs with
  | nil => intro _; rfl
  | cons w r ih =>
    intro hc
    have hw : w.category = 1 := hc w List.mem_cons_self
    have := ih (fun u hu => hc u (List.mem_cons_of_mem _ hu))
    simp only [lg_sl, List.flatMap_cons, List.length_append, List.length_cons]
    rw [if_neg (by rw [hw]; decide)]
    simp only [lg_sl] at this
    rw [this]
    simp
    omega
def gl_en (Mt : gl_M) (av : List Value) : List Value := av ++ List.replicate (Mt.2.2.1 - av.length) (.float 0)
/-- a contract out of the walk of the body -/
theorem gl_meth {av : List Value} (hy : plainName Mt.1.cls = true) (hav : av.length ≤ Mt.2.2.1) (his : ∀ v ∈ av, gl_is v = true) (E : gl_Ev l sc Mt 0 (gl_en Mt av) [] h z k n Q) : gl_Ret l sc Mt av h z k n Q := by
  intro base b D cI cB
  refine Met.ofW (cc := Mt.2.1) (maxL := Mt.2.2.1) (ret := Mt.2.2.2.1) hy rfl ?_
  intro p e s m args below meth c s₁ B hml hv
  obtain ⟨rfl, W0, hK, hX, hbb, hsz⟩ := hv
  have hts0 := atoms_spec (ws := gl_wsM Mt) B.pre
  have hts : ∀ w ∈ gl_tb, w.before (av.map (gl_mv base b)).toArray s = true := fun w hw => hts0 w (List.mem_cons_of_mem _ hw)
  have hown : s.vm.findClass Mt.1.cls = some m.cls := findClass_of_methodNamed B.named
  have hlocks := B.notSynchronized
  have hin : meth.name = Mt.1.name := (name_of_methodNamed B.named B.method).1
  have hcat : ∀ w ∈ av.map (gl_mv base b), w.category = 1 := by
    intro w hw
    obtain ⟨v, hv, rfl⟩ := List.mem_map.mp hw
    exact gl_cat (his v hv)
  have hlen := gl_sl_len _ hcat
  have hl := lv_entry (av.map (gl_mv base b)) (n := Mt.2.2.1) (by rw [hlen, List.length_map]; exact hav)
  rw [lg_entry_eq]
  generalize (lg_sl (av.map (gl_mv base b)) ++ List.replicate (Mt.2.2.1 - (lg_sl (av.map (gl_mv base b))).length) Slot.unset).toArray = A at hl ⊢
  have hL : gl_L base b Mt.2.2.1 (gl_en Mt av) A := by
    refine ⟨⟨hl.1, hl.2.1, fun q hq => hl.2.2 q ?_⟩, by simp [gl_en]; omega⟩
    obtain ⟨v, h1, h2, h3⟩ := gl_lv_mem.mp hq
    by_cases hq1 : q.1 < av.length
    · rw [gl_en, List.getElem?_append_left hq1] at h1
      have := gl_args_mem (av.map (gl_mv base b)) 0 q.1 (gl_mv base b v) hcat (by rw [List.getElem?_map, h1]; rfl)
      rw [Nat.zero_add, ← h3] at this
      exact this
    · rw [gl_en, List.getElem?_append_right (by omega), List.getElem?_replicate] at h1
      split at h1
      · cases h1; cases h2
      · cases h1
  have C : gl_Cx sc Mt base b D cI cB p (gl_rm Mt k n) s m (av.map (gl_mv base b)).toArray meth c := ⟨B.exec, B.bytes, B.returns, hml, hown, hts, hK, hX, hbb, hsz, fun h => hin.trans h, Nat.le_refl _, Nat.le_refl _⟩
  refine E base b D cI cB p e (gl_rm Mt k n) s m _ below meth c s.heap [] 0 0 A _ C W0 va_S.rf (by show 0 + k ≤ k; omega) (by show 0 + n ≤ n; omega) hL ?_
  intro r h' H' locs' pc' A' hQ W1 S1 hrt
  have hb := B.bytes
  have hx := B.exec
  have hr := B.returns
  rcases hrt with ⟨rfl, h2, h3⟩ | ⟨v, rfl, h3, h4⟩
  · exact W.vret hx hb (by rw [hr]; exact h2) (fun t ht hW => ⟨none, h', rfl, hQ, by rw [ht]; exact W1, S1.F ht⟩) S1.2.2 h3
  · rcases h4 with h4 | ⟨h4, h5⟩
    · exact W.iret hx hb (by rw [hr]; exact h4) (fun t ht hW => ⟨some (.int v), h', rfl, hQ, by rw [ht]; exact W1, S1.F ht⟩) S1.2.2 h3
    · exact W.zret hx hb (by rw [hr]; exact h4) h5 (fun t ht hW => ⟨some (.int v), h', rfl, hQ, by rw [ht]; exact W1, S1.F ht⟩) S1.2.2 h3
/-- a return -/
theorem gl_r_ret {r : Option Value} (hrt : gl_rt Mt pc r) (hQ : Q r h) : gl_Ev l sc Mt pc ls r.toList h z k n Q := by
  intro base b D cI cB p e R s m args below meth c H locs cells slots A QW C W0 S0 hc hs hL fin
  exact W.widen (by omega) (by omega) (fin r h H locs pc A hQ W0 S0 hrt)
/-- behind a call -/
theorem gl_after {p : Program} {e : Env} {R : Room} {s : State} {m : MethodId} {args a : Array Value} {below : List Frame} {meth : Method} {c : Code} {H : Heap} {locs : List Loc} {cells slots mc ms base b cI cB : Nat} {D : va_G} {A : Array Slot} {st0 rest : List Value} {QW : State → Prop}
    (hr : va_Run p l e R s m args below meth c H locs cells slots mc ms (F0 m pc A st0) rest (gl_Qc base b D cI cB z Q a) (fun q : Nat => base ≤ q)) (hS : va_S (fun q : Nat => base ≤ q) s.heap H locs)
    (kk : ∀ (r : Option Value) (h' : List gl_E) (H1 : Heap) (locs1 : List Loc), Q r h' → gl_Wd base b D cI cB z h' H1 → va_S (fun q : Nat => base ≤ q) s.heap H1 locs1 → W p l e R s m args below meth c H1 locs1 (cells + mc) (slots + ms) QW (F0 m (pc + 3) A ((r.map (gl_mv base b)).toList ++ rest))) : W p l e R s m args below meth c H locs cells slots QW (F0 m pc A st0) := by
  intro T hT X
  obtain ⟨v, st₀, t, T', L, h0, X', hL, e1, e2, ⟨r, h', hv, hQ, hW, hz, hk⟩, st⟩ := hr T hT X
  cases hv
  rw [h0] at hz hk
  obtain ⟨t2, a1, b1⟩ := kk r h' T'.heap (locs ++ L) hQ (by rw [e1]; exact hW)
    ⟨Nat.le_trans hS.1 (by rw [e1]; exact hz), fun q h1 h2 => by rw [e1, hk q (Nat.lt_of_lt_of_le h1 hS.1) h2]; exact hS.2.1 q h1 h2, fun q hq => by
      rcases List.mem_append.mp hq with h | h
      · exact hS.2.2 q h
      · exact hL q h⟩ T' rfl X'
  exact ⟨t2, st t2 a1, b1⟩
end GLC
/-- all words of the tables are such as stay -/
def gl_nw (w : Cond) : Bool := match w with
  | .fieldLinkNest _ _ _ _ _ _ => true
  | .methodLinkNest _ _ _ _ => true
  | _ => false
def gl_gw (w : Cond) : Bool := gl_nw w || goodWord w
theorem gl_good1 : (k2_sels lw_privs).all gl_gw = true := by decide +kernel
theorem gl_good2 : (tables_1_1.filter gl_np).all gl_gw = true := by decide +kernel
theorem gl_good3 : (tables_1_2.filter gl_np).all gl_gw = true := by decide +kernel
theorem gl_good4 : (tables_1_3.filter gl_np).all gl_gw = true := by decide +kernel
theorem gl_good5 : (tables_1_4.filter gl_np).all gl_gw = true := by decide +kernel
theorem gl_good6 : (tables_1_5.filter gl_np).all gl_gw = true := by decide +kernel
theorem gl_good : gl_tb.all gl_gw = true := by
  simp only [gl_tb, tables_1, List.filter_append, List.all_append, gl_good1, gl_good2, gl_good3, gl_good4, gl_good5, gl_good6, Bool.and_self]
theorem gl_stay1 {w : Cond} (hw : gl_gw w = true) {args : Array Value} {s : State} (h : w.before args s = true) (a' : Array Value) (U : State) (hW : s.WarmedH U.vm) : w.before a' U = true := by
  unfold gl_gw at hw
  rcases (Bool.or_eq_true _ _).mp hw with hw | hw
  · unfold gl_nw at hw
    split at hw
    · exact va_Nw.use rfl (va_Nw.warmF hW (va_Nw.of rfl h))
    · exact va_Nw.use rfl (va_Nw.warmM hW (va_Nw.of rfl h))
    · cases hw
  · exact word_at hW (good_of_word hw) h
theorem gl_stay {args : Array Value} {s : State} (hts : ∀ w ∈ gl_tb, w.before args s = true) {Mt : gl_M} (hm : Cond.code Mt.1 Mt.2.1 Mt.2.2.1 Mt.2.2.2.1 ∈ gl_tb) : ∀ w ∈ gl_wsM Mt, ∀ (a' : Array Value) (U : State), s.WarmedH U.vm → w.before a' U = true := by
  intro w hw a' U hW
  have hm : w ∈ gl_tb := by
    rcases List.mem_cons.mp hw with rfl | h1
    · exact hm
    · exact h1
  exact gl_stay1 (List.all_eq_true.mp gl_good w hm) (hts w hm) a' U hW
theorem gl_blind {sc : Nat × (Nat → Int32)} {base b : Nat} {D : va_G} {cI cB : Nat} {z : Bool} {av : List Value} {h : List gl_E} : FrameBlind (gl_Pc sc base b D cI cB z av h) := by
  intro a U g mk ⟨q0, q1, q2, q3, q4, q5⟩
  exact ⟨q0, q1, va_K.moved (u := U) (U := U.calling g mk a) (Vm.Alike.refl U.vm) q2, va_X.moved (u := U) (U := U.calling g mk a) (Vm.Alike.refl U.vm) q3, q4, q5⟩
/-- the words of a call: of the method called; of the place that calls -/
def gl_mw (M' : gl_M) (np : Nat) : Prop := Cond.code M'.1 M'.2.1 M'.2.2.1 M'.2.2.2.1 ∈ gl_tb ∧ Cond.initialized M'.1.cls ∈ gl_tb ∧ (M'.1.cls ≠ "java/lang/invoke/MethodHandle" ∧ M'.1.cls ≠ "java/lang/invoke/VarHandle") ∧ (parseMethodDescriptor M'.1.desc).map (fun d => d.parameters.length) = some np
def gl_cr (Mt M' : gl_M) : Prop := M'.2.2.2.2.1 + 1 ≤ Mt.2.2.2.2.1 ∧ 8 + (M'.2.2.1 + 11) + M'.2.2.2.2.2 ≤ Mt.2.2.2.2.2
def gl_lk (own : String) (idx : Nat) (y : MethodName) : Prop := Cond.methodLink own idx y ∈ gl_tb ∨ Cond.methodLinkNest own idx y "ModeCells" ∈ gl_tb
theorem gl_mw.par {M' : gl_M} {np : Nat} (h : gl_mw M' np) : ∀ sig, parseMethodDescriptor M'.1.desc = some sig → np = sig.parameters.length := by
  intro sig hs
  have := h.2.2.2
  rw [hs] at this
  exact (Option.some.inj this).symm
section GLK
variable {l : Launch} {sc : Nat × (Nat → Int32)} {Mt M' : gl_M} {pc : Nat} {ls st : List Value} {h : List gl_E} {z : Bool} {k n k1 n1 k2 n2 : Nat} {Q Q' : Option Value → List gl_E → Prop}
theorem gl_pre {sc : Nat × (Nat → Int32)} {base b : Nat} {D : va_G} {cI cB : Nat} {s : State} {p : Program} {R : Room} {m : MethodId} {args : Array Value} {meth : Method} {c : Code} {av : List Value} {H : Heap} {locs : List Loc} (C : gl_Cx sc Mt base b D cI cB p R s m args meth c) (W0 : gl_Wd base b D cI cB z h H) (S0 : va_S (fun q : Nat => base ≤ q) s.heap H locs) : ∀ U : State, U.heap = H → s.WarmedH U.vm → gl_Pc sc base b D cI cB z av h (av.map (gl_mv base b)).toArray U := by
  intro U hU hW
  have hb := C.2.2.2.2.2.2.2.2.1
  have hs := C.2.2.2.2.2.2.2.2.2.1
  refine ⟨rfl, by rw [hU]; exact W0, va_K.moved hW.alike C.2.2.2.2.2.2.1, ?_, hb, by rw [hU]; exact Nat.le_trans hs S0.1⟩
  rw [hU]
  exact va_X.moved hW.alike (va_X.kept C.2.2.2.2.2.2.2.1 (S0.2.1 b (Nat.lt_of_lt_of_le hb hs) (Nat.not_le.mpr hb)))
/-- a call of an instance's method -/
theorem gl_r_vcall {idx o ci : Nat} {q : vw_C} {fs : List Value} {As : List Value} (hM : gl_Ret l sc M' (.ref o :: As) h z k1 n1 Q') (hm : gl_mw M' As.length) (hi : Cond.instanceMethod M'.1 ∈ gl_tb) (hse : Cond.selects M'.1.cls M'.1 M'.1 ∈ gl_tb) (hlk : gl_lk Mt.1.cls idx M'.1) (hcr : gl_cr Mt M') (hcl : gl_cls[ci]? = some q) (hq : q.1 = M'.1.cls) (ho : h[o]? = some (.inr (ci, fs))) (hst : st.length ≤ 4) (hk : k1 + k2 ≤ k) (hn : n1 + n2 ≤ n)
    (hd : decode Mt.2.1 pc = .ok (.invokevirtual idx, 3)) (K : ∀ (r : Option Value) (h' : List gl_E), Q' r h' → gl_Ev l sc Mt (pc + 3) ls (r.toList ++ st) h' z k2 n2 Q) : gl_Ev l sc Mt pc ls (As.reverse ++ .ref o :: st) h z k n Q := by
  intro base b D cI cB p e R s m args below meth c H locs cells slots A QW C W0 S0 hc hs hL fin
  have hts := C.2.2.2.2.2.1
  have hR1 := C.2.2.2.2.2.2.2.2.2.2.2.1
  have hR2 := C.2.2.2.2.2.2.2.2.2.2.2.2
  have hrecv := va_recv C.2.2.2.2.2.2.1 W0.1 hcl (gl_ws_at ho)
  rw [hq] at hrecv
  have hsum := gl_catsum base b st
  have hmap : ((As.reverse ++ Value.ref o :: st).map (gl_mv base b)) = (As.map (gl_mv base b)).reverse ++ Value.ref (base + o) :: st.map (gl_mv base b) := by simp [gl_mv]
  have hpre := gl_pre (av := .ref o :: As) C W0 S0
  have hroom : 2 * (F0 m pc A ((As.reverse ++ Value.ref o :: st).map (gl_mv base b))).monitorRoom + ((st.map (gl_mv base b)).map fun v => v.category).sum ≤ 8 := by
    show 2 * 0 + _ ≤ 8
    omega
  have hrun : va_Run p l e R s m args below meth c H locs cells slots k1 n1 (F0 m pc A ((As.reverse ++ Value.ref o :: st).map (gl_mv base b))) (st.map (gl_mv base b)) (gl_Qc base b D cI cB z Q' (Value.ref (base + o) :: As.map (gl_mv base b)).toArray) (fun q : Nat => base ≤ q) := by
    rcases hlk with hlk | hlk
    · exact va_runV (Ts := gl_tb) (own := Mt.1.cls) (C := M'.1.cls) (bytes := M'.2.1) (maxL := M'.2.2.1) (ret := M'.2.2.2.1) (n := As.length) ⟨C.1, C.2.1, C.2.2.2.1, C.2.2.2.2.1, hts⟩ (hM base b D cI cB)
        ⟨⟨rfl, rfl, Nat.le_trans hcr.1 hR1, Nat.le_trans hcr.2 hR2, gl_stay hts hm.1, List.mem_cons_self, hts _ hm.1, hts _ hm.2.1, hm.2.2.1, hm.par, hts _ hlk⟩, hts _ hi, hts _ hse⟩
        ⟨gl_blind, hrecv, hpre⟩ rfl (by simp) hL.1.1 hmap hroom hd ⟨by omega, by omega⟩
    · exact va_runVN (Ts := gl_tb) (own := Mt.1.cls) (C := M'.1.cls) (host := "ModeCells") (bytes := M'.2.1) (maxL := M'.2.2.1) (ret := M'.2.2.2.1) (n := As.length) ⟨C.1, C.2.1, C.2.2.2.1, C.2.2.2.2.1, hts⟩ (hM base b D cI cB)
        ⟨⟨⟨rfl, rfl, Nat.le_trans hcr.1 hR1, Nat.le_trans hcr.2 hR2, gl_stay hts hm.1, List.mem_cons_self⟩, hts _ hm.1, hts _ hm.2.1, hm.2.2.1, hm.par, hts _ hlk⟩, hts _ hi, hts _ hse⟩
        ⟨gl_blind, hrecv, hpre⟩ rfl (by simp) hL.1.1 hmap hroom hd ⟨by omega, by omega⟩
  refine gl_after hrun S0 fun r h' H1 locs1 hQ W1 S1 => ?_
  have K' := K r h' hQ base b D cI cB p e R s m args below meth c H1 locs1 (cells + k1) (slots + n1) A QW C W1 S1 (by omega) (by omega) hL fin
  have hres : (r.map (gl_mv base b)).toList ++ st.map (gl_mv base b) = (r.toList ++ st).map (gl_mv base b) := by cases r <;> simp
  rw [hres]
  exact K'
/-- a call of a static method -/
theorem gl_r_scall {idx : Nat} {As : List Value} (hM : gl_Ret l sc M' As h z k1 n1 Q') (hm : gl_mw M' As.length) (hi : Cond.static M'.1 ∈ gl_tb) (hlk : gl_lk Mt.1.cls idx M'.1) (hcr : gl_cr Mt M') (hst : st.length ≤ 4) (hk : k1 + k2 ≤ k) (hn : n1 + n2 ≤ n)
    (hd : decode Mt.2.1 pc = .ok (.invokestatic idx, 3)) (K : ∀ (r : Option Value) (h' : List gl_E), Q' r h' → gl_Ev l sc Mt (pc + 3) ls (r.toList ++ st) h' z k2 n2 Q) : gl_Ev l sc Mt pc ls (As.reverse ++ st) h z k n Q := by
  intro base b D cI cB p e R s m args below meth c H locs cells slots A QW C W0 S0 hc hs hL fin
  have hts := C.2.2.2.2.2.1
  have hR1 := C.2.2.2.2.2.2.2.2.2.2.2.1
  have hR2 := C.2.2.2.2.2.2.2.2.2.2.2.2
  have hsum := gl_catsum base b st
  have hmap : ((As.reverse ++ st).map (gl_mv base b)) = (As.map (gl_mv base b)).reverse ++ st.map (gl_mv base b) := by simp
  have hpre := gl_pre (av := As) C W0 S0
  have hroom : 2 * (F0 m pc A ((As.reverse ++ st).map (gl_mv base b))).monitorRoom + ((st.map (gl_mv base b)).map fun v => v.category).sum ≤ 8 := by
    show 2 * 0 + _ ≤ 8
    omega
  have hrun : va_Run p l e R s m args below meth c H locs cells slots k1 n1 (F0 m pc A ((As.reverse ++ st).map (gl_mv base b))) (st.map (gl_mv base b)) (gl_Qc base b D cI cB z Q' (As.map (gl_mv base b)).toArray) (fun q : Nat => base ≤ q) := by
    rcases hlk with hlk | hlk
    · exact va_runS (Ts := gl_tb) (own := Mt.1.cls) (bytes := M'.2.1) (maxL := M'.2.2.1) (ret := M'.2.2.2.1) (n := As.length) ⟨C.1, C.2.1, C.2.2.2.1, C.2.2.2.2.1, hts⟩ (hM base b D cI cB)
        ⟨⟨rfl, rfl, Nat.le_trans hcr.1 hR1, Nat.le_trans hcr.2 hR2, gl_stay hts hm.1, List.mem_cons_self, hts _ hm.1, hts _ hm.2.1, hm.2.2.1, hm.par, hts _ hlk⟩, hts _ hi⟩
        ⟨gl_blind, hpre⟩ rfl (by simp) hL.1.1 hmap hroom hd ⟨by omega, by omega⟩
    · exact va_runSN (Ts := gl_tb) (own := Mt.1.cls) (host := "ModeCells") (bytes := M'.2.1) (maxL := M'.2.2.1) (ret := M'.2.2.2.1) (n := As.length) ⟨C.1, C.2.1, C.2.2.2.1, C.2.2.2.2.1, hts⟩ (hM base b D cI cB)
        ⟨⟨⟨rfl, rfl, Nat.le_trans hcr.1 hR1, Nat.le_trans hcr.2 hR2, gl_stay hts hm.1, List.mem_cons_self⟩, hts _ hm.1, hts _ hm.2.1, hm.2.2.1, hm.par, hts _ hlk⟩, hts _ hi, trivial⟩
        ⟨gl_blind, hpre⟩ rfl (by simp) hL.1.1 hmap hroom hd ⟨by omega, by omega⟩
  refine gl_after hrun S0 fun r h' H1 locs1 hQ W1 S1 => ?_
  have K' := K r h' hQ base b D cI cB p e R s m args below meth c H1 locs1 (cells + k1) (slots + n1) A QW C W1 S1 (by omega) (by omega) hL fin
  have hres : (r.map (gl_mv base b)).toList ++ st.map (gl_mv base b) = (r.toList ++ st).map (gl_mv base b) := by cases r <;> simp
  rw [hres]
  exact K'
/-- a call of a constructor -/
theorem gl_r_icall {idx o : Nat} {As : List Value} (hM : gl_Ret l sc M' (.ref o :: As) h z k1 n1 Q') (hm : gl_mw M' As.length) (hi : Cond.instanceMethod M'.1 ∈ gl_tb) (hnm : M'.1.name = "<init>") (hrt : M'.2.2.2.1 = none) (hlk : gl_lk Mt.1.cls idx M'.1) (hcr : gl_cr Mt M') (hst : st.length ≤ 4) (hk : k1 + k2 ≤ k) (hn : n1 + n2 ≤ n)
    (hd : decode Mt.2.1 pc = .ok (.invokespecial idx, 3)) (K : ∀ (r : Option Value) (h' : List gl_E), Q' r h' → gl_Ev l sc Mt (pc + 3) ls (r.toList ++ st) h' z k2 n2 Q) : gl_Ev l sc Mt pc ls (As.reverse ++ .ref o :: st) h z k n Q := by
  intro base b D cI cB p e R s m args below meth c H locs cells slots A QW C W0 S0 hc hs hL fin
  have hts := C.2.2.2.2.2.1
  have hR1 := C.2.2.2.2.2.2.2.2.2.2.2.1
  have hR2 := C.2.2.2.2.2.2.2.2.2.2.2.2
  have hsum := gl_catsum base b st
  have hmap : ((As.reverse ++ Value.ref o :: st).map (gl_mv base b)) = (As.map (gl_mv base b)).reverse ++ Value.ref (base + o) :: st.map (gl_mv base b) := by simp [gl_mv]
  have hpre := gl_pre (av := .ref o :: As) C W0 S0
  have hcm := hm.1
  rw [hrt] at hcm
  have hin : Cond.code M'.1 M'.2.1 M'.2.2.1 none ∈ gl_wsM M' := List.mem_cons_of_mem _ hcm
  have hroom : 2 * (F0 m pc A ((As.reverse ++ Value.ref o :: st).map (gl_mv base b))).monitorRoom + ((st.map (gl_mv base b)).map fun v => v.category).sum ≤ 8 := by
    show 2 * 0 + _ ≤ 8
    omega
  have hrun : va_Run p l e R s m args below meth c H locs cells slots k1 n1 (F0 m pc A ((As.reverse ++ Value.ref o :: st).map (gl_mv base b))) (st.map (gl_mv base b)) (gl_Qc base b D cI cB z Q' (Value.ref (base + o) :: As.map (gl_mv base b)).toArray) (fun q : Nat => base ≤ q) := by
    rcases hlk with hlk | hlk
    · exact va_runI (Ts := gl_tb) (own := Mt.1.cls) (bytes := M'.2.1) (maxL := M'.2.2.1) (n := As.length) ⟨C.1, C.2.1, C.2.2.2.1, C.2.2.2.2.1, hts⟩ (hM base b D cI cB)
        ⟨⟨rfl, rfl, Nat.le_trans hcr.1 hR1, Nat.le_trans hcr.2 hR2, gl_stay hts hm.1, hin, hts _ hcm, hts _ hm.2.1, hm.2.2.1, hm.par, hts _ hlk⟩, hnm, hts _ hi⟩
        ⟨gl_blind, hpre⟩ rfl (by simp) hL.1.1 hmap hroom hd ⟨by omega, by omega⟩
    · exact va_runIN (Ts := gl_tb) (own := Mt.1.cls) (host := "ModeCells") (bytes := M'.2.1) (maxL := M'.2.2.1) (n := As.length) ⟨C.1, C.2.1, C.2.2.2.1, C.2.2.2.2.1, hts⟩ (hM base b D cI cB)
        ⟨⟨⟨rfl, rfl, Nat.le_trans hcr.1 hR1, Nat.le_trans hcr.2 hR2, gl_stay hts hm.1, hin⟩, hts _ hcm, hts _ hm.2.1, hm.2.2.1, hm.par, hts _ hlk⟩, hnm, hts _ hi⟩
        ⟨gl_blind, hpre⟩ rfl (by simp) hL.1.1 hmap hroom hd ⟨by omega, by omega⟩
  refine gl_after hrun S0 fun r h' H1 locs1 hQ W1 S1 => ?_
  have K' := K r h' hQ base b D cI cB p e R s m args below meth c H1 locs1 (cells + k1) (slots + n1) A QW C W1 S1 (by omega) (by omega) hL fin
  have hres : (r.map (gl_mv base b)).toList ++ st.map (gl_mv base b) = (r.toList ++ st).map (gl_mv base b) := by cases r <;> simp
  rw [hres]
  exact K'
end GLK
end
section
/-! THE EXECUTOR: straight rows of instructions, run over a memory that any interface I gives; what must hold on the way comes back as a list -/
abbrev gl_O : Type := Instr × Nat × Nat × Nat × Int32
abbrev gl_I (μ : Type) : Type := (μ → Nat → Nat → Nat → Option Value) × (μ → Nat → Nat → Nat → Value → Option μ) × (μ → Nat → Option (Bool × Nat × (Nat → Int32))) × (μ → Nat → (Nat → Int32) → μ) × (μ → Nat) × (μ → gl_E → Option μ)
def gl_law {μ : Type} (I : gl_I μ) (emb : μ → List gl_E) : Prop :=
  (∀ m o ci j v, I.1 m o ci j = some v → ∃ fs, (emb m)[o]? = some (.inr (ci, fs)) ∧ fs[j]? = some v) ∧
  (∀ m o ci j v m', I.2.1 m o ci j v = some m' → ∃ fs, (emb m)[o]? = some (.inr (ci, fs)) ∧ j < fs.length ∧ emb m' = (emb m).set o (.inr (ci, fs.set j v))) ∧
  (∀ m a x, I.2.2.1 m a = some x → (emb m)[a]? = some (.inl x)) ∧
  (∀ m a x g, I.2.2.1 m a = some x → emb (I.2.2.2.1 m a g) = (emb m).set a (.inl (x.1, x.2.1, g))) ∧
  (∀ m e m', I.2.2.2.2.2 m e = some m' → emb m' = emb m ++ [e] ∧ I.2.2.2.2.1 m = (emb m).length)
def gl_len (i : Instr) : Nat := match i with
  | .bipush _ => 2
  | .sipush _ => 3
  | .ldc _ => 2
  | .iload _ => 2
  | .aload _ => 2
  | .istore _ => 2
  | .astore _ => 2
  | .iinc _ _ => 3
  | .getfield _ => 3
  | .putfield _ => 3
  | .new _ => 3
  | .newarray _ => 2
  | .invokespecial _ => 3
  | .invokestatic _ => 3
  | .invokevirtual _ => 3
  | .if_icmp _ _ => 3
  | .ifCond _ _ => 3
  | .goto _ => 3
  | _ => 1
def gl_df (ci : Nat) : List Value := (gl_dts.getD ci []).map defaultValue
def gl_x1 {μ : Type} (I : gl_I μ) (sc : Nat × (Nat → Int32)) (z : Bool) (o : gl_O) (ls st : List Value) (m : μ) (k n : Nat) : Option (List Prop × List Value × List Value × μ × Nat × Nat) := match o.1 with
  | .iconst _ => some ([], ls, .int o.2.2.2.2 :: st, m, k, n)
  | .bipush _ => some ([], ls, .int o.2.2.2.2 :: st, m, k, n)
  | .sipush _ => some ([], ls, .int o.2.2.2.2 :: st, m, k, n)
  | .ldc _ => some ([], ls, .int o.2.2.2.2 :: st, m, k, n)
  | .iload i => match ls[i]? with
    | some (.int x) => some ([], ls, .int x :: st, m, k, n)
    | _ => none
  | .iload_n i => match ls[(i : Nat)]? with
    | some (.int x) => some ([], ls, .int x :: st, m, k, n)
    | _ => none
  | .aload i => match ls[i]? with
    | some (.ref x) => some ([], ls, .ref x :: st, m, k, n)
    | _ => none
  | .aload_n i => match ls[(i : Nat)]? with
    | some (.ref x) => some ([], ls, .ref x :: st, m, k, n)
    | some (.long x) => some ([], ls, .long x :: st, m, k, n)
    | _ => none
  | .istore i => match st with
    | .int x :: r => if i < ls.length then some ([], ls.set i (.int x), r, m, k, n) else none
    | _ => none
  | .istore_n i => match st with
    | .int x :: r => if (i : Nat) < ls.length then some ([], ls.set (i : Nat) (.int x), r, m, k, n) else none
    | _ => none
  | .astore_n i => match st with
    | .ref x :: r => if (i : Nat) < ls.length then some ([], ls.set (i : Nat) (.ref x), r, m, k, n) else none
    | _ => none
  | .iinc i _ => match ls[i]? with
    | some (.int x) => some ([], ls.set i (.int (x + o.2.2.2.2)), st, m, k, n)
    | _ => none
  | .iadd => match st with
    | .int y :: .int x :: r => some ([], ls, .int (x + y) :: r, m, k, n)
    | _ => none
  | .isub => match st with
    | .int y :: .int x :: r => some ([], ls, .int (x - y) :: r, m, k, n)
    | _ => none
  | .imul => match st with
    | .int y :: .int x :: r => some ([], ls, .int (x * y) :: r, m, k, n)
    | _ => none
  | .iand => match st with
    | .int y :: .int x :: r => some ([], ls, .int (x &&& y) :: r, m, k, n)
    | _ => none
  | .ior => match st with
    | .int y :: .int x :: r => some ([], ls, .int (x ||| y) :: r, m, k, n)
    | _ => none
  | .ishl => match st with
    | .int y :: .int x :: r => some ([], ls, .int (x <<< (y &&& 31)) :: r, m, k, n)
    | _ => none
  | .ishr => match st with
    | .int y :: .int x :: r => some ([], ls, .int (x >>> (y &&& 31)) :: r, m, k, n)
    | _ => none
  | .idiv => match st with
    | .int y :: .int x :: r => some ([¬ y = 0], ls, .int (x / y) :: r, m, k, n)
    | _ => none
  | .irem => match st with
    | .int y :: .int x :: r => some ([¬ y = 0], ls, .int (x - x / y * y) :: r, m, k, n)
    | _ => none
  | .dup => match st with
    | .int x :: r => some ([], ls, .int x :: .int x :: r, m, k, n)
    | .ref x :: r => some ([], ls, .ref x :: .ref x :: r, m, k, n)
    | _ => none
  | .pop => match st with
    | .int _ :: r => some ([], ls, r, m, k, n)
    | .ref _ :: r => some ([], ls, r, m, k, n)
    | _ => none
  | .dup2 => match st with
    | .int x :: .ref y :: r => some ([], ls, .int x :: .ref y :: .int x :: .ref y :: r, m, k, n)
    | _ => none
  | .getfield _ => match st with
    | .ref a :: r => match I.1 m a o.2.1 o.2.2.1 with
      | some v => some ([], ls, v :: r, m, k, n)
      | none => none
    | _ => none
  | .putfield _ => match st with
    | .int x :: .ref a :: r => match (gl_dts.getD o.2.1 []).getD o.2.2.1 .int with
      | .int => match I.2.1 m a o.2.1 o.2.2.1 (.int x) with
        | some m' => some ([], ls, r, m', k, n)
        | none => none
      | .boolean => match I.2.1 m a o.2.1 o.2.2.1 (.int x) with
        | some m' => some ([x = 0 ∨ x = 1], ls, r, m', k, n)
        | none => none
      | _ => none
    | .ref x :: .ref a :: r => match (gl_dts.getD o.2.1 []).getD o.2.2.1 .int with
      | .object _ => match I.2.1 m a o.2.1 o.2.2.1 (.ref x) with
        | some m' => some ([], ls, r, m', k, n)
        | none => none
      | .array _ => match I.2.1 m a o.2.1 o.2.2.1 (.ref x) with
        | some m' => some ([], ls, r, m', k, n)
        | none => none
      | _ => none
    | _ => none
  | .iaload => match st with
    | .int i :: .ref a :: r => match I.2.2.1 m a with
      | some (false, nn, f) => some ([vp_in i nn], ls, .int (f i.toNatClampNeg) :: r, m, k, n)
      | _ => none
    | .int i :: .long _ :: r => some ([vp_in i sc.1], ls, .int (sc.2 i.toNatClampNeg) :: r, m, k, n)
    | _ => none
  | .baload => match st with
    | .int i :: .ref a :: r => match I.2.2.1 m a with
      | some (true, nn, f) => some ([vp_in i nn], ls, .int (f i.toNatClampNeg) :: r, m, k, n)
      | _ => none
    | _ => none
  | .iastore => match st with
    | .int x :: .int i :: .ref a :: r => match I.2.2.1 m a with
      | some (false, nn, f) => some ([vp_in i nn], ls, r, I.2.2.2.1 m a (upd f i.toNatClampNeg x), k, n)
      | _ => none
    | _ => none
  | .bastore => match z with
    | true => none
    | false => match st with
      | .int x :: .int i :: .ref a :: r => match I.2.2.1 m a with
        | some (true, nn, f) => some ([vp_in i nn], ls, r, I.2.2.2.1 m a (upd f i.toNatClampNeg (vp_nar .boolean x)), k, n)
        | _ => none
      | _ => none
  | .arraylength => match st with
    | .ref a :: r => match I.2.2.1 m a with
      | some (_, nn, _) => some ([], ls, .int (Int32.ofNat nn) :: r, m, k, n)
      | _ => none
    | .long _ :: r => some ([], ls, .int (Int32.ofNat sc.1) :: r, m, k, n)
    | _ => none
  | .invokestatic _ => match o.2.1 with
    | 0 => none
    | 1 => match st with
      | .int y :: .int x :: r => if r.length ≤ 4 then some ([], ls, .int (if y < x then y else x) :: r, m, k, n) else none
      | _ => none
    | _ => match z with
      | true => none
      | false => match st with
        | .int cn :: .int dp :: .ref a' :: .int sp :: .ref a :: r => match I.2.2.1 m a, I.2.2.1 m a' with
          | some (false, nn, f), some (false, nn', g) => if r.length ≤ 4 then some ([¬ sp < 0, ¬ dp < 0, ¬ cn < 0, sp.toNatClampNeg + cn.toNatClampNeg ≤ nn, dp.toNatClampNeg + cn.toNatClampNeg ≤ nn'], ls, r, I.2.2.2.1 m a' (va_cpy f g sp.toNatClampNeg dp.toNatClampNeg cn.toNatClampNeg), k, n) else none
          | _, _ => none
        | _ => none
  | .invokespecial _ => match o.2.1 with
    | 3 => match st with
      | .ref _ :: r => if r.length ≤ 4 then some ([], ls, r, m, k, n) else none
      | _ => none
    | _ => none
  | .newarray t => match z with
    | false => none
    | true => match st with
      | .int i :: r => match t with
        | .int => match I.2.2.2.2.2 m (.inl (false, i.toNatClampNeg, fun _ => 0)) with
          | some m' => some ([¬ i < 0, i.toNatClampNeg ≤ 65536, 1 ≤ k, i.toNatClampNeg ≤ n], ls, .ref (I.2.2.2.2.1 m) :: r, m', k - 1, n - i.toNatClampNeg)
          | none => none
        | .boolean => match I.2.2.2.2.2 m (.inl (true, i.toNatClampNeg, fun _ => 0)) with
          | some m' => some ([¬ i < 0, i.toNatClampNeg ≤ 65536, 1 ≤ k, i.toNatClampNeg ≤ n], ls, .ref (I.2.2.2.2.1 m) :: r, m', k - 1, n - i.toNatClampNeg)
          | none => none
        | _ => none
      | _ => none
  | .new _ => match z with
    | false => none
    | true => match I.2.2.2.2.2 m (.inr (o.2.1, gl_df o.2.1)) with
      | some m' => some ([1 ≤ k, (gl_df o.2.1).length ≤ n], ls, .ref (I.2.2.2.2.1 m) :: st, m', k - 1, n - (gl_df o.2.1).length)
      | none => none
  | _ => none
def gl_all : List Prop → Prop
  | [] => True
  | [p] => p
  | p :: q :: r => p ∧ gl_all (q :: r)
theorem gl_all_iff : ∀ (l : List Prop), gl_all l ↔ ∀ p ∈ l, p := by
  intro l
  induction l with
  | nil => exact ⟨fun _ p hp => absurd hp List.not_mem_nil, fun _ => trivial⟩
  | cons p r ih =>
    cases r with
    | nil => exact ⟨fun h q hq => by rw [List.mem_singleton.mp hq]; exact h, fun h => h p List.mem_cons_self⟩
    | cons q r => exact ⟨fun h => List.forall_mem_cons.mpr ⟨h.1, ih.mp h.2⟩, fun h => ⟨h p List.mem_cons_self, ih.mpr (fun x hx => h x (List.mem_cons_of_mem _ hx))⟩⟩
/-- the rows, one behind another -/
def gl_X {μ : Type} (I : gl_I μ) (sc : Nat × (Nat → Int32)) (z : Bool) : List (Nat × gl_O) → Nat → List Value → List Value → μ → Nat → Nat → Option (List Prop × Nat × List Value × List Value × μ × Nat × Nat)
  | [], pc, ls, st, m, k, n => some ([], pc, ls, st, m, k, n)
  | o :: r, pc, ls, st, m, k, n => if o.1 = pc then match gl_x1 I sc z o.2 ls st m k n with
    | some (P, ls', st', m', k', n') => match gl_X I sc z r (pc + gl_len o.2.1) ls' st' m' k' n' with
      | some (P2, R) => some (P ++ P2, R)
      | none => none
    | none => none
    else none
end
section
theorem gl_okc_ty : ∀ (ci : Nat) (q : vw_C), gl_cls[ci]? = some q → gl_okc q (gl_Y (gl_dts.getD ci [])) := by
  intro ci q hq
  match ci, hq with
  | 0, hq => cases hq; exact gl_okc0
  | 1, hq => cases hq; exact gl_okc1
  | 2, hq => cases hq; exact gl_okc2
  | 3, hq => cases hq; exact gl_okc3
  | 4, hq => cases hq; exact gl_okc4
  | 5, hq => cases hq; exact gl_okc5
  | 6, hq => cases hq; exact gl_okc6
  | 7, hq => cases hq; exact gl_okc7
  | 8, hq => cases hq; exact gl_okc8
  | 9, hq => cases hq; exact gl_okc9
  | 10, hq => cases hq; exact gl_okc10
  | 11, hq => cases hq; exact gl_okc11
  | k + 12, hq => simp [gl_cls] at hq
theorem gl_df_len : ∀ (ci : Nat) (q : vw_C), gl_cls[ci]? = some q → (gl_df ci).length = q.2.2 ∧ ∀ j, j < q.2.2 → (gl_df ci)[j]? = some (defaultValue (gl_Y (gl_dts.getD ci []) j)) ∧ (gl_Y (gl_dts.getD ci []) j = .int ∨ gl_Y (gl_dts.getD ci []) j = .boolean ∨ (∃ c, gl_Y (gl_dts.getD ci []) j = .object c) ∨ ∃ t, gl_Y (gl_dts.getD ci []) j = .array t) := by
  have key : ∀ (D : List FieldType) (N : Nat), D.length = N → (∀ t ∈ D, t = .int ∨ t = .boolean ∨ (∃ c, t = .object c) ∨ ∃ u, t = .array u) → (D.map defaultValue).length = N ∧ ∀ j, j < N → (D.map defaultValue)[j]? = some (defaultValue (gl_Y D j)) ∧ (gl_Y D j = .int ∨ gl_Y D j = .boolean ∨ (∃ c, gl_Y D j = .object c) ∨ ∃ t, gl_Y D j = .array t) := by
    intro D N hN hall
    refine ⟨by rw [List.length_map]; exact hN, fun j hj => ?_⟩
    have hj' : j < D.length := by omega
    have hg : gl_Y D j = D[j] := by simp [gl_Y, List.getD_eq_getElem?_getD, hj']
    rw [hg]
    exact ⟨by simp [hj'], hall _ (List.getElem_mem hj')⟩
  intro ci q hq
  unfold gl_df
  match ci, hq with
  | 0, hq => cases hq; exact key gl_D0 _ rfl (by simp [gl_D0])
  | 1, hq => cases hq; exact key gl_D1 _ rfl (by simp [gl_D1])
  | 2, hq => cases hq; exact key gl_D2 _ rfl (by simp [gl_D2])
  | 3, hq => cases hq; exact key gl_D3 _ rfl (by simp [gl_D3])
  | 4, hq => cases hq; exact key gl_D4 _ rfl (by simp [gl_D4])
  | 5, hq => cases hq; exact key gl_D5 _ rfl (by simp [gl_D5])
  | 6, hq => cases hq; exact key gl_D6 _ rfl (by simp [gl_D6])
  | 7, hq => cases hq; exact key gl_D7 _ rfl (by simp [gl_D7])
  | 8, hq => cases hq; exact key gl_D8 _ rfl (by simp [gl_D8])
  | 9, hq => cases hq; exact key gl_D9 _ rfl (by simp [gl_D9])
  | 10, hq => cases hq; exact key gl_D10 _ rfl (by simp [gl_D10])
  | 11, hq => cases hq; exact key gl_D11 _ rfl (by simp [gl_D11])
  | k + 12, hq => simp [gl_cls] at hq
/-- what is checked of an instruction, by the kernel: its pool's entry, its number -/
def gl_lf (Mt : gl_M) (o : gl_O) (i : Nat) (q : vw_C) : Bool := decide (gl_tb[o.2.2.2.1]? = some (.fieldLink Mt.1.cls i (q.2.1 o.2.2.1).1 (q.2.1 o.2.2.1).2.1 (q.2.1 o.2.2.1).2.2.1))
def gl_ln (Mt : gl_M) (o : gl_O) (i : Nat) (q : vw_C) : Bool := decide (gl_tb[o.2.2.2.1]? = some (.fieldLinkNest Mt.1.cls i (q.2.1 o.2.2.1).1 (q.2.1 o.2.2.1).2.1 (q.2.1 o.2.2.1).2.2.1 "ModeCells"))
def gl_res (mn : List MethodName) (Mt : gl_M) (o : gl_O) : Bool := match o.1 with
  | .iconst a => decide (Int32.ofInt a = o.2.2.2.2)
  | .bipush a => decide ((Int8.ofInt a).toInt32 = o.2.2.2.2)
  | .sipush a => decide ((Int16.ofInt a).toInt32 = o.2.2.2.2)
  | .iinc _ a => decide (Int32.ofInt a = o.2.2.2.2)
  | .ldc i => decide (gl_tb[o.2.2.2.1]? = some (.constant Mt.1.cls i o.2.2.2.2))
  | .getfield i => match gl_cls[o.2.1]? with
    | some q => decide (o.2.2.1 < q.2.2) && (gl_lf Mt o i q || gl_ln Mt o i q)
    | none => false
  | .putfield i => match gl_cls[o.2.1]? with
    | some q => decide (o.2.2.1 < q.2.2) && ((gl_lf Mt o i q && (decide ((q.2.1 o.2.2.1).2.2.2 = false) || (decide (Mt.1.name = "<init>") && decide ((q.2.1 o.2.2.1).1 = Mt.1.cls)))) || (gl_ln Mt o i q && decide ((q.2.1 o.2.2.1).2.2.2 = false)))
    | none => false
  | .new i => match gl_cls[o.2.1]? with
    | some q => decide (gl_tb[o.2.2.2.1]? = some (.classLink Mt.1.cls i q.1))
    | none => false
  | .invokestatic i => match o.2.1 with
    | 0 => match mn[o.2.2.1]? with
      | some y => decide (gl_tb[o.2.2.2.1]? = some (.methodLink Mt.1.cls i y)) || decide (gl_tb[o.2.2.2.1]? = some (.methodLinkNest Mt.1.cls i y "ModeCells"))
      | none => false
    | 1 => decide (gl_tb[o.2.2.2.1]? = some (.methodLink Mt.1.cls i Lib.Math.min.name)) && decide (1 ≤ Mt.2.2.2.2.1) && decide (26 ≤ Mt.2.2.2.2.2)
    | _ => decide (gl_tb[o.2.2.2.1]? = some (.methodLink Mt.1.cls i arraycopyName)) && decide (1 ≤ Mt.2.2.2.2.1) && decide (26 ≤ Mt.2.2.2.2.2)
  | .invokespecial i => match o.2.1 with
    | 3 => decide (gl_tb[o.2.2.2.1]? = some (.methodLink Mt.1.cls i Lib.objectInit)) && decide (1 ≤ Mt.2.2.2.2.1) && decide (26 ≤ Mt.2.2.2.2.2)
    | _ => match mn[o.2.2.1]? with
      | some y => decide (gl_tb[o.2.2.2.1]? = some (.methodLink Mt.1.cls i y)) || decide (gl_tb[o.2.2.2.1]? = some (.methodLinkNest Mt.1.cls i y "ModeCells"))
      | none => false
  | .invokevirtual i => match mn[o.2.2.1]? with
      | some y => decide (gl_tb[o.2.2.2.1]? = some (.methodLink Mt.1.cls i y)) || decide (gl_tb[o.2.2.2.1]? = some (.methodLinkNest Mt.1.cls i y "ModeCells"))
      | none => false
  | _ => true
def gl_ok1 (mn : List MethodName) (Mt : gl_M) (q : Nat × gl_O) : Bool := decide (decode Mt.2.1 q.1 = .ok (q.2.1, gl_len q.2.1)) && gl_res mn Mt q.2
theorem gl_fl_of {Mt : gl_M} {o : gl_O} {i : Nat} {q : vw_C} (h : (gl_lf Mt o i q || gl_ln Mt o i q) = true) : gl_fl Mt.1.cls i q.2.1 o.2.2.1 := by
  rcases (Bool.or_eq_true _ _).mp h with h | h
  · exact Or.inl (List.mem_of_getElem? (of_decide_eq_true h))
  · exact Or.inr (List.mem_of_getElem? (of_decide_eq_true h))
end
section
theorem gl_w_ai : Cond.arrayClass .int ∈ gl_tb := List.mem_of_getElem? (i := 127) (by decide +kernel)
theorem gl_w_az : Cond.arrayClass .boolean ∈ gl_tb := List.mem_of_getElem? (i := 316) (by decide +kernel)
theorem gl_w_ms : Cond.static Lib.Math.min.name ∈ gl_tb := List.mem_of_getElem? (i := 458) (by decide +kernel)
theorem gl_w_mi : Cond.initialized "java/lang/Math" ∈ gl_tb := List.mem_of_getElem? (i := 102) (by decide +kernel)
theorem gl_w_mc : Cond.code Lib.Math.min.name Lib.Math.min.code 2 (some .int) ∈ gl_tb := List.mem_of_getElem? (i := 459) (by decide +kernel)
theorem gl_w_cn : Cond.native arraycopyName ∈ gl_tb := List.mem_of_getElem? (i := 462) (by decide +kernel)
theorem gl_w_cs : Cond.static arraycopyName ∈ gl_tb := List.mem_of_getElem? (i := 461) (by decide +kernel)
theorem gl_w_ci : Cond.initialized "java/lang/System" ∈ gl_tb := List.mem_of_getElem? (i := 103) (by decide +kernel)
theorem gl_w_oi : Cond.instanceMethod Lib.objectInit ∈ gl_tb := List.mem_of_getElem? (i := 110) (by decide +kernel)
theorem gl_w_oc : Cond.code Lib.objectInit ⟨#[0xb1]⟩ 1 none ∈ gl_tb := List.mem_of_getElem? (i := 111) (by decide +kernel)
section GLX
variable {μ : Type} {I : gl_I μ} {emb : μ → List gl_E} {mn : List MethodName} {l : Launch} {sc : Nat × (Nat → Int32)} {Mt : gl_M} {pc : Nat} {ls st ls' st' : List Value} {m m' : μ} {z : Bool} {k n k' n' : Nat} {Q : Option Value → List gl_E → Prop} {Ps : List Prop}
theorem gl_step (hI : gl_law I emb) (o : gl_O) (hok : gl_ok1 mn Mt (pc, o) = true) (hx : gl_x1 I sc z o ls st m k n = some (Ps, ls', st', m', k', n')) (hP : ∀ p ∈ Ps, p) (K : gl_Ev l sc Mt (pc + gl_len o.1) ls' st' (emb m') z k' n' Q) : gl_Ev l sc Mt pc ls st (emb m) z k n Q := by
  obtain ⟨hI1, hI2, hI3, hI4, hI5⟩ := hI
  obtain ⟨i, x, y, w, c⟩ := o
  have hd := of_decide_eq_true ((Bool.and_eq_true _ _).mp hok).1
  have hr := ((Bool.and_eq_true _ _).mp hok).2
  dsimp only at hd K hr
  cases i with
  | iconst a =>
    simp only [gl_x1] at hx
    cases hx
    have e := of_decide_eq_true hr
    dsimp only at e
    have K2 := K
    rw [← e] at K2
    exact gl_r_iconst hd K2
  | bipush a =>
    simp only [gl_x1] at hx
    cases hx
    have e := of_decide_eq_true hr
    dsimp only at e
    have K2 := K
    rw [← e] at K2
    exact gl_r_bipush hd K2
  | sipush a =>
    simp only [gl_x1] at hx
    cases hx
    have e := of_decide_eq_true hr
    dsimp only at e
    have K2 := K
    rw [← e] at K2
    exact gl_r_sipush hd K2
  | ldc a =>
    simp only [gl_x1] at hx
    cases hx
    exact gl_r_ldc (List.mem_of_getElem? (of_decide_eq_true hr)) hd K
  | iload i =>
    simp only [gl_x1] at hx
    split at hx
    · cases hx; exact gl_r_iload (by assumption) hd K
    · cases hx
  | iload_n i =>
    simp only [gl_x1] at hx
    split at hx
    · cases hx; exact gl_r_iload_n (by assumption) hd K
    · cases hx
  | aload i =>
    simp only [gl_x1] at hx
    split at hx
    · cases hx; exact gl_r_aload (by assumption) hd K
    · cases hx
  | aload_n i =>
    simp only [gl_x1] at hx
    split at hx
    · cases hx; exact gl_r_aload_n (by assumption) hd K
    · cases hx; exact gl_r_sload_n (by assumption) hd K
    · cases hx
  | istore i =>
    simp only [gl_x1] at hx
    split at hx
    · split at hx
      · cases hx; exact gl_r_istore (by assumption) hd K
      · cases hx
    · cases hx
  | istore_n i =>
    simp only [gl_x1] at hx
    split at hx
    · split at hx
      · cases hx; exact gl_r_istore_n (by assumption) hd K
      · cases hx
    · cases hx
  | astore_n i =>
    simp only [gl_x1] at hx
    split at hx
    · split at hx
      · cases hx; exact gl_r_astore_n (by assumption) hd K
      · cases hx
    · cases hx
  | iinc i a =>
    simp only [gl_x1] at hx
    split at hx
    · cases hx
      have e := of_decide_eq_true hr
      dsimp only at e
      have K2 := K
      rw [← e] at K2
      exact gl_r_iinc (by assumption) hd K2
    · cases hx
  | iadd =>
    simp only [gl_x1] at hx
    split at hx
    · cases hx; exact gl_r_iadd hd K
    · cases hx
  | isub =>
    simp only [gl_x1] at hx
    split at hx
    · cases hx; exact gl_r_isub hd K
    · cases hx
  | imul =>
    simp only [gl_x1] at hx
    split at hx
    · cases hx; exact gl_r_imul hd K
    · cases hx
  | iand =>
    simp only [gl_x1] at hx
    split at hx
    · cases hx; exact gl_r_iand hd K
    · cases hx
  | ior =>
    simp only [gl_x1] at hx
    split at hx
    · cases hx; exact gl_r_ior hd K
    · cases hx
  | ishl =>
    simp only [gl_x1] at hx
    split at hx
    · cases hx; exact gl_r_ishl hd K
    · cases hx
  | ishr =>
    simp only [gl_x1] at hx
    split at hx
    · cases hx; exact gl_r_ishr hd K
    · cases hx
  | idiv =>
    simp only [gl_x1] at hx
    split at hx
    · cases hx; exact gl_r_idiv (hP _ List.mem_cons_self) hd K
    · cases hx
  | irem =>
    simp only [gl_x1] at hx
    split at hx
    · cases hx; exact gl_r_irem (hP _ List.mem_cons_self) hd K
    · cases hx
  | dup =>
    simp only [gl_x1] at hx
    split at hx
    · cases hx; exact gl_r_dup rfl hd K
    · cases hx; exact gl_r_dup rfl hd K
    · cases hx
  | pop =>
    simp only [gl_x1] at hx
    split at hx
    · cases hx; exact gl_r_pop rfl hd K
    · cases hx; exact gl_r_pop rfl hd K
    · cases hx
  | dup2 =>
    simp only [gl_x1] at hx
    split at hx
    · cases hx; exact gl_r_dup2 rfl rfl hd K
    · cases hx
  | getfield a =>
    simp only [gl_x1] at hx
    split at hx
    · split at hx
      · cases hx
        rename_i v hv
        obtain ⟨fs, h1, h2⟩ := hI1 _ _ _ _ _ hv
        simp only [gl_res] at hr
        split at hr
        · rename_i q hq
          have hr2 := (Bool.and_eq_true _ _).mp hr
          exact gl_r_get hq (of_decide_eq_true hr2.1) (gl_fl_of hr2.2) h1 h2 hd K
        · cases hr
      · cases hx
    · cases hx
  | putfield a =>
    simp only [gl_x1] at hx
    split at hx
    · split at hx
      · split at hx
        · cases hx
          rename_i hty m2 hv
          obtain ⟨fs, h1, h2, h3⟩ := hI2 _ _ _ _ _ _ hv
          simp only [gl_res] at hr
          split at hr
          · rename_i q hq
            obtain ⟨hr1, hr2⟩ := (Bool.and_eq_true _ _).mp hr
            have hr1 := of_decide_eq_true hr1
            obtain ⟨hk1, hk2, -⟩ := gl_okc_ty _ _ hq
            refine gl_r_put hq hr1 (gl_fl_of (o := (.putfield a, x, y, w, c)) ?_) ?_ h1 h2 (fun ty ht => ?_) hd (by rw [← h3]; exact K)
            · rcases (Bool.or_eq_true _ _).mp hr2 with h | h
              · rw [((Bool.and_eq_true _ _).mp h).1]; rfl
              · rw [((Bool.and_eq_true _ _).mp h).1, Bool.or_true]
            · rcases (Bool.or_eq_true _ _).mp hr2 with h | h
              · obtain ⟨g1, g2⟩ := (Bool.and_eq_true _ _).mp h
                rcases (Bool.or_eq_true _ _).mp g2 with g3 | g3
                · exact Or.inl (of_decide_eq_true g3)
                · obtain ⟨g4, g5⟩ := (Bool.and_eq_true _ _).mp g3
                  exact Or.inr ⟨List.mem_of_getElem? (of_decide_eq_true g1), of_decide_eq_true g4, of_decide_eq_true g5⟩
              · exact Or.inl (of_decide_eq_true ((Bool.and_eq_true _ _).mp h).2)
            · have e2 : ty = gl_Y (gl_dts.getD x []) y := Option.some.inj (ht.symm.trans (hk2 _ hr1))
              have e3 : gl_Y (gl_dts.getD x []) y = _ := hty
              rw [e2, e3]
              exact Or.inl ⟨rfl, _, rfl⟩
          · cases hr
        · cases hx
      · split at hx
        · cases hx
          rename_i hty m2 hv
          obtain ⟨fs, h1, h2, h3⟩ := hI2 _ _ _ _ _ _ hv
          simp only [gl_res] at hr
          split at hr
          · rename_i q hq
            obtain ⟨hr1, hr2⟩ := (Bool.and_eq_true _ _).mp hr
            have hr1 := of_decide_eq_true hr1
            obtain ⟨hk1, hk2, -⟩ := gl_okc_ty _ _ hq
            refine gl_r_put hq hr1 (gl_fl_of (o := (.putfield a, x, y, w, c)) ?_) ?_ h1 h2 (fun ty ht => ?_) hd (by rw [← h3]; exact K)
            · rcases (Bool.or_eq_true _ _).mp hr2 with h | h
              · rw [((Bool.and_eq_true _ _).mp h).1]; rfl
              · rw [((Bool.and_eq_true _ _).mp h).1, Bool.or_true]
            · rcases (Bool.or_eq_true _ _).mp hr2 with h | h
              · obtain ⟨g1, g2⟩ := (Bool.and_eq_true _ _).mp h
                rcases (Bool.or_eq_true _ _).mp g2 with g3 | g3
                · exact Or.inl (of_decide_eq_true g3)
                · obtain ⟨g4, g5⟩ := (Bool.and_eq_true _ _).mp g3
                  exact Or.inr ⟨List.mem_of_getElem? (of_decide_eq_true g1), of_decide_eq_true g4, of_decide_eq_true g5⟩
              · exact Or.inl (of_decide_eq_true ((Bool.and_eq_true _ _).mp h).2)
            · have e2 : ty = gl_Y (gl_dts.getD x []) y := Option.some.inj (ht.symm.trans (hk2 _ hr1))
              have e3 : gl_Y (gl_dts.getD x []) y = _ := hty
              rw [e2, e3]
              exact Or.inr (Or.inl ⟨rfl, _, rfl, hP _ List.mem_cons_self⟩)
          · cases hr
        · cases hx
      · cases hx
    · split at hx
      · split at hx
        · cases hx
          rename_i hty m2 hv
          obtain ⟨fs, h1, h2, h3⟩ := hI2 _ _ _ _ _ _ hv
          simp only [gl_res] at hr
          split at hr
          · rename_i q hq
            obtain ⟨hr1, hr2⟩ := (Bool.and_eq_true _ _).mp hr
            have hr1 := of_decide_eq_true hr1
            obtain ⟨hk1, hk2, -⟩ := gl_okc_ty _ _ hq
            refine gl_r_put hq hr1 (gl_fl_of (o := (.putfield a, x, y, w, c)) ?_) ?_ h1 h2 (fun ty ht => ?_) hd (by rw [← h3]; exact K)
            · rcases (Bool.or_eq_true _ _).mp hr2 with h | h
              · rw [((Bool.and_eq_true _ _).mp h).1]; rfl
              · rw [((Bool.and_eq_true _ _).mp h).1, Bool.or_true]
            · rcases (Bool.or_eq_true _ _).mp hr2 with h | h
              · obtain ⟨g1, g2⟩ := (Bool.and_eq_true _ _).mp h
                rcases (Bool.or_eq_true _ _).mp g2 with g3 | g3
                · exact Or.inl (of_decide_eq_true g3)
                · obtain ⟨g4, g5⟩ := (Bool.and_eq_true _ _).mp g3
                  exact Or.inr ⟨List.mem_of_getElem? (of_decide_eq_true g1), of_decide_eq_true g4, of_decide_eq_true g5⟩
              · exact Or.inl (of_decide_eq_true ((Bool.and_eq_true _ _).mp h).2)
            · have e2 : ty = gl_Y (gl_dts.getD x []) y := Option.some.inj (ht.symm.trans (hk2 _ hr1))
              have e3 : gl_Y (gl_dts.getD x []) y = _ := hty
              rw [e2, e3]
              exact Or.inr (Or.inr ⟨Or.inl ⟨_, rfl⟩, _, rfl⟩)
          · cases hr
        · cases hx
      · split at hx
        · cases hx
          rename_i hty m2 hv
          obtain ⟨fs, h1, h2, h3⟩ := hI2 _ _ _ _ _ _ hv
          simp only [gl_res] at hr
          split at hr
          · rename_i q hq
            obtain ⟨hr1, hr2⟩ := (Bool.and_eq_true _ _).mp hr
            have hr1 := of_decide_eq_true hr1
            obtain ⟨hk1, hk2, -⟩ := gl_okc_ty _ _ hq
            refine gl_r_put hq hr1 (gl_fl_of (o := (.putfield a, x, y, w, c)) ?_) ?_ h1 h2 (fun ty ht => ?_) hd (by rw [← h3]; exact K)
            · rcases (Bool.or_eq_true _ _).mp hr2 with h | h
              · rw [((Bool.and_eq_true _ _).mp h).1]; rfl
              · rw [((Bool.and_eq_true _ _).mp h).1, Bool.or_true]
            · rcases (Bool.or_eq_true _ _).mp hr2 with h | h
              · obtain ⟨g1, g2⟩ := (Bool.and_eq_true _ _).mp h
                rcases (Bool.or_eq_true _ _).mp g2 with g3 | g3
                · exact Or.inl (of_decide_eq_true g3)
                · obtain ⟨g4, g5⟩ := (Bool.and_eq_true _ _).mp g3
                  exact Or.inr ⟨List.mem_of_getElem? (of_decide_eq_true g1), of_decide_eq_true g4, of_decide_eq_true g5⟩
              · exact Or.inl (of_decide_eq_true ((Bool.and_eq_true _ _).mp h).2)
            · have e2 : ty = gl_Y (gl_dts.getD x []) y := Option.some.inj (ht.symm.trans (hk2 _ hr1))
              have e3 : gl_Y (gl_dts.getD x []) y = _ := hty
              rw [e2, e3]
              exact Or.inr (Or.inr ⟨Or.inr ⟨_, rfl⟩, _, rfl⟩)
          · cases hr
        · cases hx
      · cases hx
    · cases hx
  | iaload =>
    simp only [gl_x1] at hx
    split at hx
    · split at hx
      · cases hx
        rename_i hv
        exact gl_r_iald (hI3 _ _ _ hv) (hP _ List.mem_cons_self) hd K
      · cases hx
    · cases hx
      exact gl_r_sald (hP _ List.mem_cons_self) hd K
    · cases hx
  | baload =>
    simp only [gl_x1] at hx
    split at hx
    · split at hx
      · cases hx
        rename_i hv
        exact gl_r_zald (hI3 _ _ _ hv) (hP _ List.mem_cons_self) hd K
      · cases hx
    · cases hx
  | iastore =>
    simp only [gl_x1] at hx
    split at hx
    · split at hx
      · cases hx
        rename_i hv
        exact gl_r_iast (hI3 _ _ _ hv) (hP _ List.mem_cons_self) hd (by rw [← hI4 _ _ _ _ hv]; exact K)
      · cases hx
    · cases hx
  | bastore =>
    simp only [gl_x1] at hx
    split at hx
    · cases hx
    · split at hx
      · split at hx
        · cases hx
          rename_i hv
          exact gl_r_zast rfl (hI3 _ _ _ hv) (hP _ List.mem_cons_self) hd (by rw [← hI4 _ _ _ _ hv]; exact K)
        · cases hx
      · cases hx
  | arraylength =>
    simp only [gl_x1] at hx
    split at hx
    · split at hx
      · cases hx
        rename_i hv
        exact gl_r_alen (hI3 _ _ _ hv) hd K
      · cases hx
    · cases hx
      exact gl_r_slen hd K
    · cases hx
  | invokestatic a =>
    simp only [gl_x1] at hx
    split at hx
    · cases hx
    · split at hx
      · split at hx
        · cases hx
          simp only [gl_res] at hr
          obtain ⟨hr1, hr2⟩ := (Bool.and_eq_true _ _).mp hr
          obtain ⟨hr1, hr3⟩ := (Bool.and_eq_true _ _).mp hr1
          have hr2 := of_decide_eq_true hr2
          exact gl_r_min (List.mem_of_getElem? (of_decide_eq_true hr1)) gl_w_ms gl_w_mi gl_w_mc (of_decide_eq_true hr3) (by omega) hd K
        · cases hx
      · cases hx
    · rename_i hx0 hx1
      split at hx
      · cases hx
      · split at hx
        · split at hx
          · split at hx
            · cases hx
              rename_i ha ha' _
              simp only [gl_res] at hr
              obtain ⟨hr1, hr2⟩ := (Bool.and_eq_true _ _).mp hr
              obtain ⟨hr1, hr3⟩ := (Bool.and_eq_true _ _).mp hr1
              have hr2 := of_decide_eq_true hr2
              have hP2 := (gl_all_iff _).mpr hP
              exact gl_r_copy rfl (List.mem_of_getElem? (of_decide_eq_true hr1)) gl_w_cn gl_w_cs gl_w_ci (hI3 _ _ _ ha) (hI3 _ _ _ ha') hP2.1 hP2.2.1 hP2.2.2.1 hP2.2.2.2.1 hP2.2.2.2.2 (of_decide_eq_true hr3) (by omega) hd (by rw [← hI4 _ _ _ _ ha']; exact K)
            · cases hx
          · cases hx
        · cases hx
  | invokespecial a =>
    simp only [gl_x1] at hx
    split at hx
    · split at hx
      · split at hx
        · cases hx
          simp only [gl_res] at hr
          obtain ⟨hr1, hr2⟩ := (Bool.and_eq_true _ _).mp hr
          obtain ⟨hr1, hr3⟩ := (Bool.and_eq_true _ _).mp hr1
          have hr2 := of_decide_eq_true hr2
          exact gl_r_obj (List.mem_of_getElem? (of_decide_eq_true hr1)) gl_w_oi gl_w_oc (of_decide_eq_true hr3) (by omega) hd K
        · cases hx
      · cases hx
    · cases hx
  | newarray t =>
    simp only [gl_x1] at hx
    split at hx
    · cases hx
    · split at hx
      · split at hx
        · split at hx
          · cases hx
            rename_i m2 hv
            obtain ⟨h1, h2⟩ := hI5 _ _ _ hv
            have hP2 := (gl_all_iff _).mpr hP
            rw [h2, h1] at K
            exact gl_r_newi gl_w_ai rfl hP2.1 rfl hP2.2.1 (by have h9 : 1 ≤ k := hP2.2.2.1; omega) (by have h9 : _ ≤ n := hP2.2.2.2; omega) hd K
          · cases hx
        · split at hx
          · cases hx
            rename_i m2 hv
            obtain ⟨h1, h2⟩ := hI5 _ _ _ hv
            have hP2 := (gl_all_iff _).mpr hP
            rw [h2, h1] at K
            exact gl_r_newz gl_w_az rfl hP2.1 rfl hP2.2.1 (by have h9 : 1 ≤ k := hP2.2.2.1; omega) (by have h9 : _ ≤ n := hP2.2.2.2; omega) hd K
          · cases hx
        · cases hx
      · cases hx
  | new a =>
    simp only [gl_x1] at hx
    split at hx
    · cases hx
    · split at hx
      · cases hx
        rename_i m2 hv
        obtain ⟨h1, h2⟩ := hI5 _ _ _ hv
        have hP2 := (gl_all_iff _).mpr hP
        rw [h2, h1] at K
        simp only [gl_res] at hr
        split at hr
        · rename_i q hq
          obtain ⟨e1, e2⟩ := gl_df_len _ _ hq
          obtain ⟨-, hk2, -⟩ := gl_okc_ty _ _ hq
          refine gl_r_new hq (List.mem_of_getElem? (of_decide_eq_true hr)) (fun j ty hj ht => ?_) rfl (by have h9 : 1 ≤ k := hP2.1; omega) (by have h9 : (gl_df x).length ≤ n := hP2.2; rw [← e1]; omega) hd K
          have e3 : ty = gl_Y (gl_dts.getD x []) j := Option.some.inj (ht.symm.trans (hk2 _ hj))
          rw [e3]
          obtain ⟨f1, f2⟩ := e2 j hj
          refine ⟨f1, fun base b => ?_⟩
          rcases f2 with f | f | ⟨c, f⟩ | ⟨t, f⟩ <;> rw [f] <;> rfl
        · cases hr
      · cases hx
  | _ => simp [gl_x1] at hx
theorem gl_run (hI : gl_law I emb) : ∀ (ops : List (Nat × gl_O)) (pc : Nat) (ls st : List Value) (m : μ) (k n : Nat) (Ps : List Prop) (pc' : Nat) (ls' st' : List Value) (m' : μ) (k' n' : Nat), (∀ q ∈ ops, gl_ok1 mn Mt q = true) → gl_X I sc z ops pc ls st m k n = some (Ps, pc', ls', st', m', k', n') → gl_all Ps → gl_Ev l sc Mt pc' ls' st' (emb m') z k' n' Q → gl_Ev l sc Mt pc ls st (emb m) z k n Q := by
  intro ops
  induction ops with
  | nil => intro pc ls st m k n Ps pc' ls' st' m' k' n' _ hx _ K; cases hx; exact K
  | cons o r ih =>
    intro pc ls st m k n Ps pc' ls' st' m' k' n' hok hx hP K
    simp only [gl_X] at hx
    split at hx
    · rename_i hpc
      split at hx
      · rename_i P1 l1 s1 m1 k1 n1 h1
        split at hx
        · rename_i P2 R h2
          cases hx
          have hP' := (gl_all_iff _).mp hP
          refine gl_step hI o.2 (by rw [← hpc]; exact hok o List.mem_cons_self) h1 (fun p hp => hP' p (List.mem_append_left _ hp)) ?_
          exact ih _ _ _ _ _ _ _ _ _ _ _ _ _ (fun q hq => hok q (List.mem_cons_of_mem _ hq)) h2 ((gl_all_iff _).mpr (fun p hp => hP' p (List.mem_append_right _ hp))) K
        · cases hx
      · cases hx
    · cases hx
end GLX
end
section
/-! the methods: name, code, locals, answer, room; their rows; that the rows are the code, and link as they say (by the kernel) -/
def m_X10_init : gl_M := (⟨"ModeCells", "<init>", "()V"⟩, prog_1_method_1_code, 1, none, 3, 70)
def m_X10_type : gl_M := (⟨"ModeCells", "type", "(I)I"⟩, prog_1_method_2_code, 2, (some .int), 1, 22)
def m_X10_clear : gl_M := (⟨"ModeCells", "clear", "()I"⟩, prog_1_method_3_code, 2, (some .int), 0, 0)
def m_X10_modes : gl_M := (⟨"ModeCells", "modes", "()I"⟩, prog_1_method_4_code, 2, (some .int), 7, 147)
def m_X10_cell : gl_M := (⟨"ModeCells", "cell", "(II)I"⟩, prog_1_method_5_code, 3, (some .int), 1, 22)
def m_X10_part : gl_M := (⟨"ModeCells", "part", "(III)I"⟩, prog_1_method_6_code, 5, (some .int), 2, 41)
def m_X10_plays : gl_M := (⟨"ModeCells", "plays", "(I)I"⟩, prog_1_method_7_code, 2, (some .int), 3, 69)
def m_X10_cuts : gl_M := (⟨"ModeCells", "cuts", "()I"⟩, prog_1_method_8_code, 1, (some .int), 3, 69)
def m_X10_mends : gl_M := (⟨"ModeCells", "mends", "(II)I"⟩, prog_1_method_9_code, 3, (some .int), 3, 69)
def m_X10_moves : gl_M := (⟨"ModeCells", "moves", "(I)I"⟩, prog_1_method_10_code, 2, (some .int), 3, 69)
def m_X10_undo : gl_M := (⟨"ModeCells", "undo", "()I"⟩, prog_1_method_11_code, 1, (some .int), 3, 69)
def m_X10_note : gl_M := (⟨"ModeCells", "note", "(I)I"⟩, prog_1_method_12_code, 2, (some .int), 1, 21)
def m_X10_has : gl_M := (⟨"ModeCells", "has", "(II)I"⟩, prog_1_method_13_code, 3, (some .int), 3, 71)
def m_X10_shares : gl_M := (⟨"ModeCells", "shares", "(III)I"⟩, prog_1_method_14_code, 6, (some .int), 3, 69)
def m_X10_way : gl_M := (⟨"ModeCells", "way", "(III)I"⟩, prog_1_method_15_code, 5, (some .int), 6, 138)
def m_X10_farthest : gl_M := (⟨"ModeCells", "farthest", "(II)I"⟩, prog_1_method_16_code, 4, (some .int), 3, 72)
def m_X10_parse : gl_M := (⟨"ModeCells", "parse", "(I)I"⟩, prog_1_method_17_code, 2, (some .int), 7, 162)
def m_X10_parsed : gl_M := (⟨"ModeCells", "parsed", "(II)I"⟩, prog_1_method_18_code, 4, (some .int), 7, 162)
def m_X10_reach : gl_M := (⟨"ModeCells", "reach", "()I"⟩, prog_1_method_19_code, 1, (some .int), 7, 162)
def m_X10_fit : gl_M := (⟨"ModeCells", "fit", "(I)I"⟩, prog_1_method_20_code, 2, (some .int), 4, 94)
def m_X10_home : gl_M := (⟨"ModeCells", "home", "()I"⟩, prog_1_method_21_code, 5, (some .int), 4, 94)
def m_X10_sees : gl_M := (⟨"ModeCells", "sees", "(II)I"⟩, prog_1_method_22_code, 3, (some .int), 1, 22)
def m_X10_forget : gl_M := (⟨"ModeCells", "forget", "()I"⟩, prog_1_method_23_code, 2, (some .int), 0, 0)
def m_X10_unseen : gl_M := (⟨"ModeCells", "unseen", "()I"⟩, prog_1_method_24_code, 3, (some .int), 4, 95)
def m_X10_keep : gl_M := (⟨"ModeCells", "keep", "(I)I"⟩, prog_1_method_25_code, 2, (some .int), 2, 48)
def m_X10_back : gl_M := (⟨"ModeCells", "back", "(I)I"⟩, prog_1_method_26_code, 2, (some .int), 2, 48)
def m_X10_count : gl_M := (⟨"ModeCells", "count", "(I)I"⟩, prog_1_method_27_code, 2, (some .int), 0, 0)
def m_X10_fitOf : gl_M := (⟨"ModeCells", "fitOf", "(I)I"⟩, prog_1_method_28_code, 4, (some .int), 3, 71)
def m_X10_within : gl_M := (⟨"ModeCells", "within", "(III)Z"⟩, prog_1_method_29_code, 3, (some .boolean), 0, 0)
def m_X10_spotOf : gl_M := (⟨"ModeCells", "spotOf", "(II)I"⟩, prog_1_method_30_code, 2, (some .int), 0, 0)
def m_X10_scaleOfSpot : gl_M := (⟨"ModeCells", "scaleOfSpot", "(I)I"⟩, prog_1_method_31_code, 1, (some .int), 0, 0)
def m_X10_partOfSpot : gl_M := (⟨"ModeCells", "partOfSpot", "(I)I"⟩, prog_1_method_32_code, 1, (some .int), 0, 0)
def m_X11_init : gl_M := (⟨"ModeCellsModel", "<init>", "()V"⟩, prog_13_method_1_code, 1, none, 1, 26)
def m_X11_in : gl_M := (⟨"ModeCellsModel", "in", "(III)Z"⟩, prog_13_method_3_code, 3, (some .boolean), 0, 0)
def m_X11_isScale : gl_M := (⟨"ModeCellsModel", "isScale", "(I)Z"⟩, prog_13_method_4_code, 2, (some .boolean), 1, 22)
def m_X11_isNote : gl_M := (⟨"ModeCellsModel", "isNote", "(I)Z"⟩, prog_13_method_5_code, 2, (some .boolean), 1, 22)
def m_X11_type : gl_M := (⟨"ModeCellsModel", "type", "(I)I"⟩, prog_13_method_6_code, 2, (some .int), 1, 22)
def m_X11_clear : gl_M := (⟨"ModeCellsModel", "clear", "()I"⟩, prog_13_method_7_code, 2, (some .int), 0, 0)
def m_X11_isFigure : gl_M := (⟨"ModeCellsModel", "isFigure", "(I)Z"⟩, prog_13_method_8_code, 2, (some .boolean), 1, 22)
def m_X11_takes : gl_M := (⟨"ModeCellsModel", "takes", "()V"⟩, prog_13_method_9_code, 1, none, 2, 43)
def m_X11_isNumber : gl_M := (⟨"ModeCellsModel", "isNumber", "(II)Z"⟩, prog_13_method_10_code, 3, (some .boolean), 1, 22)
def m_X11_readsCell : gl_M := (⟨"ModeCellsModel", "readsCell", "()Z"⟩, prog_13_method_11_code, 3, (some .boolean), 3, 63)
def m_X11_readsMode : gl_M := (⟨"ModeCellsModel", "readsMode", "()Z"⟩, prog_13_method_12_code, 5, (some .boolean), 3, 63)
def m_X11_becomes : gl_M := (⟨"ModeCellsModel", "becomes", "()V"⟩, prog_13_method_13_code, 4, none, 1, 23)
def m_X11_modes : gl_M := (⟨"ModeCellsModel", "modes", "()I"⟩, prog_13_method_14_code, 3, (some .int), 4, 87)
def m_X11_span : gl_M := (⟨"ModeCellsModel", "span", "(I)I"⟩, prog_13_method_15_code, 4, (some .int), 0, 0)
def m_X11_isIn : gl_M := (⟨"ModeCellsModel", "isIn", "(III)Z"⟩, prog_13_method_16_code, 7, (some .boolean), 0, 0)
def m_X11_parts : gl_M := (⟨"ModeCellsModel", "parts", "(I)I"⟩, prog_13_method_17_code, 2, (some .int), 0, 0)
def m_X11_cellOf : gl_M := (⟨"ModeCellsModel", "cellOf", "(II)I"⟩, prog_13_method_18_code, 3, (some .int), 0, 0)
def m_X11_pitchOf : gl_M := (⟨"ModeCellsModel", "pitchOf", "(II)I"⟩, prog_13_method_19_code, 3, (some .int), 0, 0)
def m_X11_isInPart : gl_M := (⟨"ModeCellsModel", "isInPart", "(III)Z"⟩, prog_13_method_20_code, 4, (some .boolean), 1, 26)
def m_X11_sameIn : gl_M := (⟨"ModeCellsModel", "sameIn", "(III)I"⟩, prog_13_method_21_code, 5, (some .int), 1, 22)
def m_X11_share : gl_M := (⟨"ModeCellsModel", "share", "(II)Z"⟩, prog_13_method_22_code, 5, (some .boolean), 2, 46)
def m_X11_cell : gl_M := (⟨"ModeCellsModel", "cell", "(II)I"⟩, prog_13_method_23_code, 4, (some .int), 1, 22)
def m_X11_part : gl_M := (⟨"ModeCellsModel", "part", "(III)I"⟩, prog_13_method_24_code, 4, (some .int), 2, 43)
def m_X11_manyHave : gl_M := (⟨"ModeCellsModel", "manyHave", "(II)I"⟩, prog_13_method_25_code, 5, (some .int), 2, 49)
def m_X11_has : gl_M := (⟨"ModeCellsModel", "has", "(II)I"⟩, prog_13_method_26_code, 3, (some .int), 3, 73)
def m_X11_shares : gl_M := (⟨"ModeCellsModel", "shares", "(III)I"⟩, prog_13_method_27_code, 6, (some .int), 2, 46)
def m_X11_laysFar : gl_M := (⟨"ModeCellsModel", "laysFar", "(I)V"⟩, prog_13_method_28_code, 5, none, 3, 70)
def m_X11_way : gl_M := (⟨"ModeCellsModel", "way", "(III)I"⟩, prog_13_method_29_code, 7, (some .int), 4, 94)
def m_X11_farthest : gl_M := (⟨"ModeCellsModel", "farthest", "(II)I"⟩, prog_13_method_30_code, 5, (some .int), 4, 94)
def m_X11_state : gl_M := (⟨"ModeCellsModel", "state", "(III)I"⟩, prog_13_method_31_code, 3, (some .int), 0, 0)
def m_X11_step : gl_M := (⟨"ModeCellsModel", "step", "(IIII)I"⟩, prog_13_method_32_code, 6, (some .int), 2, 46)
def m_X11_leastFrom : gl_M := (⟨"ModeCellsModel", "leastFrom", "(III)I"⟩, prog_13_method_33_code, 13, (some .int), 1, 26)
def m_X11_laysCosts : gl_M := (⟨"ModeCellsModel", "laysCosts", "()I"⟩, prog_13_method_34_code, 7, (some .int), 2, 58)
def m_X11_laysParse : gl_M := (⟨"ModeCellsModel", "laysParse", "(I)V"⟩, prog_13_method_35_code, 7, none, 3, 71)
def m_X11_parse : gl_M := (⟨"ModeCellsModel", "parse", "(I)I"⟩, prog_13_method_36_code, 3, (some .int), 4, 97)
def m_X11_parsed : gl_M := (⟨"ModeCellsModel", "parsed", "(II)I"⟩, prog_13_method_37_code, 4, (some .int), 4, 97)
def m_X11_reach : gl_M := (⟨"ModeCellsModel", "reach", "()I"⟩, prog_13_method_38_code, 3, (some .int), 3, 84)
def m_X11_fitOf : gl_M := (⟨"ModeCellsModel", "fitOf", "(I)I"⟩, prog_13_method_39_code, 4, (some .int), 3, 73)
def m_X11_fit : gl_M := (⟨"ModeCellsModel", "fit", "(I)I"⟩, prog_13_method_40_code, 2, (some .int), 4, 96)
def m_X11_home : gl_M := (⟨"ModeCellsModel", "home", "()I"⟩, prog_13_method_41_code, 5, (some .int), 4, 96)
def m_X11_remembers : gl_M := (⟨"ModeCellsModel", "remembers", "()V"⟩, prog_13_method_42_code, 2, none, 0, 0)
def m_X11_plays : gl_M := (⟨"ModeCellsModel", "plays", "(I)I"⟩, prog_13_method_43_code, 2, (some .int), 1, 22)
def m_X11_cuts : gl_M := (⟨"ModeCellsModel", "cuts", "()I"⟩, prog_13_method_44_code, 1, (some .int), 1, 21)
def m_X11_mends : gl_M := (⟨"ModeCellsModel", "mends", "(II)I"⟩, prog_13_method_45_code, 4, (some .int), 2, 43)
def m_X11_moves : gl_M := (⟨"ModeCellsModel", "moves", "(I)I"⟩, prog_13_method_46_code, 4, (some .int), 1, 22)
def m_X11_undo : gl_M := (⟨"ModeCellsModel", "undo", "()I"⟩, prog_13_method_47_code, 2, (some .int), 0, 0)
def m_X11_note : gl_M := (⟨"ModeCellsModel", "note", "(I)I"⟩, prog_13_method_48_code, 2, (some .int), 2, 43)
def m_X11_sees : gl_M := (⟨"ModeCellsModel", "sees", "(II)I"⟩, prog_13_method_49_code, 3, (some .int), 1, 22)
def m_X11_forget : gl_M := (⟨"ModeCellsModel", "forget", "()I"⟩, prog_13_method_50_code, 2, (some .int), 0, 0)
def m_X11_unseen : gl_M := (⟨"ModeCellsModel", "unseen", "()I"⟩, prog_13_method_51_code, 5, (some .int), 3, 73)
def m_X11_keep : gl_M := (⟨"ModeCellsModel", "keep", "(I)I"⟩, prog_13_method_52_code, 3, (some .int), 1, 22)
def m_X11_back : gl_M := (⟨"ModeCellsModel", "back", "(I)I"⟩, prog_13_method_53_code, 3, (some .int), 1, 22)
def m_X11_count : gl_M := (⟨"ModeCellsModel", "count", "(I)I"⟩, prog_13_method_54_code, 2, (some .int), 0, 0)
def m_X0_init : gl_M := (⟨"ModeCells$Book", "<init>", "()V"⟩, prog_2_method_1_code, 1, none, 1, 26)
def m_X0_dropAll : gl_M := (⟨"ModeCells$Book", "dropAll", "()V"⟩, prog_2_method_2_code, 1, none, 0, 0)
def m_X0_copyFrom : gl_M := (⟨"ModeCells$Book", "copyFrom", "(LModeCells$Book;)V"⟩, prog_2_method_3_code, 2, none, 2, 47)
def m_X0_copyRow : gl_M := (⟨"ModeCells$Book", "copyRow", "([I[I)V"⟩, prog_2_method_4_code, 2, none, 1, 26)
def m_X0_openCell : gl_M := (⟨"ModeCells$Book", "openCell", "()V"⟩, prog_2_method_5_code, 1, none, 0, 0)
def m_X0_addStep : gl_M := (⟨"ModeCells$Book", "addStep", "(I)V"⟩, prog_2_method_6_code, 3, none, 0, 0)
def m_X0_openMode : gl_M := (⟨"ModeCells$Book", "openMode", "(I)V"⟩, prog_2_method_7_code, 2, none, 0, 0)
def m_X0_addPart : gl_M := (⟨"ModeCells$Book", "addPart", "(II)V"⟩, prog_2_method_8_code, 5, none, 0, 0)
def m_X0_stepAt : gl_M := (⟨"ModeCells$Book", "stepAt", "(II)I"⟩, prog_2_method_9_code, 3, (some .int), 0, 0)
def m_X0_scaleCount : gl_M := (⟨"ModeCells$Book", "scaleCount", "()I"⟩, prog_2_method_10_code, 1, (some .int), 0, 0)
def m_X0_isScale : gl_M := (⟨"ModeCells$Book", "isScale", "(I)Z"⟩, prog_2_method_11_code, 2, (some .boolean), 1, 20)
def m_X0_partsOf : gl_M := (⟨"ModeCells$Book", "partsOf", "(I)I"⟩, prog_2_method_12_code, 2, (some .int), 0, 0)
def m_X0_cellAt : gl_M := (⟨"ModeCells$Book", "cellAt", "(II)I"⟩, prog_2_method_13_code, 3, (some .int), 0, 0)
def m_X0_pitchAt : gl_M := (⟨"ModeCells$Book", "pitchAt", "(II)I"⟩, prog_2_method_14_code, 3, (some .int), 0, 0)
def m_X0_placedCell : gl_M := (⟨"ModeCells$Book", "placedCell", "(II)I"⟩, prog_2_method_15_code, 3, (some .int), 1, 22)
def m_X0_isIn : gl_M := (⟨"ModeCells$Book", "isIn", "(III)Z"⟩, prog_2_method_16_code, 6, (some .boolean), 1, 22)
def m_X0_partsWith : gl_M := (⟨"ModeCells$Book", "partsWith", "(II)I"⟩, prog_2_method_17_code, 5, (some .int), 2, 47)
def m_X0_samePart : gl_M := (⟨"ModeCells$Book", "samePart", "(III)I"⟩, prog_2_method_18_code, 6, (some .int), 2, 44)
def m_X1_init : gl_M := (⟨"ModeCells$Parser", "<init>", "(LModeCells$Book;LModeCells$Tune;)V"⟩, prog_3_method_1_code, 3, none, 2, 48)
def m_X1_refresh : gl_M := (⟨"ModeCells$Parser", "refresh", "()V"⟩, prog_3_method_2_code, 2, none, 6, 141)
def m_X1_restAt : gl_M := (⟨"ModeCells$Parser", "restAt", "(II)I"⟩, prog_3_method_3_code, 3, (some .int), 0, 0)
def m_X1_measureEntries : gl_M := (⟨"ModeCells$Parser", "measureEntries", "(I)V"⟩, prog_3_method_4_code, 5, none, 2, 44)
def m_X1_measureRests : gl_M := (⟨"ModeCells$Parser", "measureRests", "(I)V"⟩, prog_3_method_5_code, 6, none, 3, 72)
def m_X1_leastRest : gl_M := (⟨"ModeCells$Parser", "leastRest", "(III)I"⟩, prog_3_method_6_code, 9, (some .int), 2, 44)
def m_X1_choose : gl_M := (⟨"ModeCells$Parser", "choose", "()V"⟩, prog_3_method_7_code, 3, none, 5, 119)
def m_X1_firstSpot : gl_M := (⟨"ModeCells$Parser", "firstSpot", "()I"⟩, prog_3_method_8_code, 4, (some .int), 1, 22)
def m_X1_nextSpot : gl_M := (⟨"ModeCells$Parser", "nextSpot", "(II)I"⟩, prog_3_method_9_code, 6, (some .int), 4, 94)
def m_X1_changeCost : gl_M := (⟨"ModeCells$Parser", "changeCost", "(II)I"⟩, prog_3_method_10_code, 6, (some .int), 3, 69)
def m_X1_countChange : gl_M := (⟨"ModeCells$Parser", "countChange", "(I)V"⟩, prog_3_method_11_code, 2, none, 0, 0)
def m_X2_init : gl_M := (⟨"ModeCells$Past", "<init>", "()V"⟩, prog_4_method_1_code, 1, none, 2, 47)
def m_X2_dropAll : gl_M := (⟨"ModeCells$Past", "dropAll", "()V"⟩, prog_4_method_2_code, 1, none, 0, 0)
def m_X2_remember : gl_M := (⟨"ModeCells$Past", "remember", "(LModeCells$Tune;)V"⟩, prog_4_method_3_code, 2, none, 2, 48)
def m_X2_restore : gl_M := (⟨"ModeCells$Past", "restore", "(LModeCells$Tune;)V"⟩, prog_4_method_4_code, 2, none, 2, 48)
def m_X3_init : gl_M := (⟨"ModeCells$Prefix", "<init>", "(LModeCells$Book;LModeCells$Tune;)V"⟩, prog_5_method_1_code, 3, none, 1, 26)
def m_X3_longest : gl_M := (⟨"ModeCells$Prefix", "longest", "()I"⟩, prog_5_method_2_code, 2, (some .int), 3, 71)
def m_X3_findLive : gl_M := (⟨"ModeCells$Prefix", "findLive", "(I)Z"⟩, prog_5_method_3_code, 5, (some .boolean), 2, 47)
def m_X3_markFromLive : gl_M := (⟨"ModeCells$Prefix", "markFromLive", "(I)V"⟩, prog_5_method_4_code, 4, none, 2, 44)
def m_X4_init : gl_M := (⟨"ModeCells$Reader", "<init>", "(LModeCells$Text;LModeCells$Book;)V"⟩, prog_6_method_1_code, 3, none, 1, 26)
def m_X4_read : gl_M := (⟨"ModeCells$Reader", "read", "()I"⟩, prog_6_method_2_code, 3, (some .int), 6, 125)
def m_X4_readItem : gl_M := (⟨"ModeCells$Reader", "readItem", "()V"⟩, prog_6_method_3_code, 2, none, 5, 104)
def m_X4_readCell : gl_M := (⟨"ModeCells$Reader", "readCell", "()V"⟩, prog_6_method_4_code, 3, none, 4, 81)
def m_X4_readMode : gl_M := (⟨"ModeCells$Reader", "readMode", "()V"⟩, prog_6_method_5_code, 4, none, 4, 81)
def m_X4_readEnd : gl_M := (⟨"ModeCells$Reader", "readEnd", "()V"⟩, prog_6_method_6_code, 1, none, 3, 61)
def m_X4_atEnd : gl_M := (⟨"ModeCells$Reader", "atEnd", "()Z"⟩, prog_6_method_7_code, 1, (some .boolean), 2, 41)
def m_X4_readNumber : gl_M := (⟨"ModeCells$Reader", "readNumber", "(II)I"⟩, prog_6_method_8_code, 4, (some .int), 2, 41)
def m_X4_isFigure : gl_M := (⟨"ModeCells$Reader", "isFigure", "(I)Z"⟩, prog_6_method_9_code, 1, (some .boolean), 0, 0)
def m_X4_skipBlanks : gl_M := (⟨"ModeCells$Reader", "skipBlanks", "()V"⟩, prog_6_method_10_code, 1, none, 1, 21)
def m_X5_init : gl_M := (⟨"ModeCells$Seen", "<init>", "()V"⟩, prog_7_method_1_code, 1, none, 1, 26)
def m_X5_add : gl_M := (⟨"ModeCells$Seen", "add", "(II)V"⟩, prog_7_method_2_code, 3, none, 0, 0)
def m_X5_agreesWith : gl_M := (⟨"ModeCells$Seen", "agreesWith", "(LModeCells$Book;I)Z"⟩, prog_7_method_3_code, 5, (some .boolean), 3, 71)
def m_X6_init : gl_M := (⟨"ModeCells$Shelf", "<init>", "(I)V"⟩, prog_8_method_1_code, 2, none, 1, 26)
def m_X6_dropAll : gl_M := (⟨"ModeCells$Shelf", "dropAll", "()V"⟩, prog_8_method_2_code, 1, none, 1, 23)
def m_X6_isKept : gl_M := (⟨"ModeCells$Shelf", "isKept", "(I)Z"⟩, prog_8_method_3_code, 2, (some .boolean), 0, 0)
def m_X6_put : gl_M := (⟨"ModeCells$Shelf", "put", "(ILModeCells$Tune;)V"⟩, prog_8_method_4_code, 3, none, 1, 26)
def m_X6_giveTo : gl_M := (⟨"ModeCells$Shelf", "giveTo", "(LModeCells$Tune;I)V"⟩, prog_8_method_5_code, 3, none, 1, 26)
def m_X7_init : gl_M := (⟨"ModeCells$Text", "<init>", "()V"⟩, prog_9_method_1_code, 1, none, 1, 26)
def m_X7_add : gl_M := (⟨"ModeCells$Text", "add", "(I)V"⟩, prog_9_method_2_code, 2, none, 0, 0)
def m_X7_letterAt : gl_M := (⟨"ModeCells$Text", "letterAt", "(I)I"⟩, prog_9_method_3_code, 2, (some .int), 0, 0)
def m_X8_init : gl_M := (⟨"ModeCells$Tune", "<init>", "()V"⟩, prog_10_method_1_code, 1, none, 1, 26)
def m_X8_isPlace : gl_M := (⟨"ModeCells$Tune", "isPlace", "(I)Z"⟩, prog_10_method_2_code, 2, (some .boolean), 0, 0)
def m_X8_dropNotes : gl_M := (⟨"ModeCells$Tune", "dropNotes", "()V"⟩, prog_10_method_3_code, 1, none, 0, 0)
def m_X8_append : gl_M := (⟨"ModeCells$Tune", "append", "(I)V"⟩, prog_10_method_4_code, 2, none, 0, 0)
def m_X8_removeLast : gl_M := (⟨"ModeCells$Tune", "removeLast", "()I"⟩, prog_10_method_5_code, 1, (some .int), 0, 0)
def m_X8_replace : gl_M := (⟨"ModeCells$Tune", "replace", "(II)I"⟩, prog_10_method_6_code, 4, (some .int), 0, 0)
def m_X8_canShift : gl_M := (⟨"ModeCells$Tune", "canShift", "(I)Z"⟩, prog_10_method_7_code, 3, (some .boolean), 1, 22)
def m_X8_shift : gl_M := (⟨"ModeCells$Tune", "shift", "(I)V"⟩, prog_10_method_8_code, 3, none, 0, 0)
def m_X9_init : gl_M := (⟨"ModeCells$Ways", "<init>", "(LModeCells$Book;)V"⟩, prog_11_method_1_code, 2, none, 1, 26)
def m_X9_dropMeasures : gl_M := (⟨"ModeCells$Ways", "dropMeasures", "()V"⟩, prog_11_method_2_code, 1, none, 0, 0)
def m_X9_measureFrom : gl_M := (⟨"ModeCells$Ways", "measureFrom", "(I)V"⟩, prog_11_method_3_code, 4, none, 2, 49)
def m_X9_enqueueSharers : gl_M := (⟨"ModeCells$Ways", "enqueueSharers", "(II)V"⟩, prog_11_method_4_code, 8, none, 1, 22)
def m_X9_enqueue : gl_M := (⟨"ModeCells$Ways", "enqueue", "(II)V"⟩, prog_11_method_5_code, 3, none, 0, 0)
def m_X9_walk : gl_M := (⟨"ModeCells$Ways", "walk", "(II)I"⟩, prog_11_method_6_code, 5, (some .int), 5, 114)
def m_X9_lowestNearer : gl_M := (⟨"ModeCells$Ways", "lowestNearer", "(I)I"⟩, prog_11_method_7_code, 3, (some .int), 4, 92)
def m_X9_sharesSome : gl_M := (⟨"ModeCells$Ways", "sharesSome", "(II)Z"⟩, prog_11_method_8_code, 4, (some .boolean), 3, 69)
def m_X9_mostDistant : gl_M := (⟨"ModeCells$Ways", "mostDistant", "()I"⟩, prog_11_method_9_code, 3, (some .int), 1, 20)
def m_L_law : gl_M := (x, code, 4, ret, 10, 370)
def m_J_fill : gl_M := (⟨"java/util/Arrays", "fill", "([II)V"⟩, prog_16_method_103_code, 4, none, 0, 0)
def gl_mn : List MethodName := [m_X10_init.1, m_X10_type.1, m_X10_clear.1, m_X10_modes.1, m_X10_cell.1, m_X10_part.1, m_X10_plays.1, m_X10_cuts.1, m_X10_mends.1, m_X10_moves.1, m_X10_undo.1, m_X10_note.1, m_X10_has.1, m_X10_shares.1, m_X10_way.1, m_X10_farthest.1, m_X10_parse.1, m_X10_parsed.1, m_X10_reach.1, m_X10_fit.1, m_X10_home.1, m_X10_sees.1, m_X10_forget.1, m_X10_unseen.1, m_X10_keep.1, m_X10_back.1, m_X10_count.1, m_X10_fitOf.1, m_X10_within.1, m_X10_spotOf.1, m_X10_scaleOfSpot.1, m_X10_partOfSpot.1, m_X11_init.1, m_X11_in.1, m_X11_isScale.1, m_X11_isNote.1, m_X11_type.1, m_X11_clear.1, m_X11_isFigure.1, m_X11_takes.1, m_X11_isNumber.1, m_X11_readsCell.1, m_X11_readsMode.1, m_X11_becomes.1, m_X11_modes.1, m_X11_span.1, m_X11_isIn.1, m_X11_parts.1, m_X11_cellOf.1, m_X11_pitchOf.1, m_X11_isInPart.1, m_X11_sameIn.1, m_X11_share.1, m_X11_cell.1, m_X11_part.1, m_X11_manyHave.1, m_X11_has.1, m_X11_shares.1, m_X11_laysFar.1, m_X11_way.1, m_X11_farthest.1, m_X11_state.1, m_X11_step.1, m_X11_leastFrom.1, m_X11_laysCosts.1, m_X11_laysParse.1, m_X11_parse.1, m_X11_parsed.1, m_X11_reach.1, m_X11_fitOf.1, m_X11_fit.1, m_X11_home.1, m_X11_remembers.1, m_X11_plays.1, m_X11_cuts.1, m_X11_mends.1, m_X11_moves.1, m_X11_undo.1, m_X11_note.1, m_X11_sees.1, m_X11_forget.1, m_X11_unseen.1, m_X11_keep.1, m_X11_back.1, m_X11_count.1, m_X0_init.1, m_X0_dropAll.1, m_X0_copyFrom.1, m_X0_copyRow.1, m_X0_openCell.1, m_X0_addStep.1, m_X0_openMode.1, m_X0_addPart.1, m_X0_stepAt.1, m_X0_scaleCount.1, m_X0_isScale.1, m_X0_partsOf.1, m_X0_cellAt.1, m_X0_pitchAt.1, m_X0_placedCell.1, m_X0_isIn.1, m_X0_partsWith.1, m_X0_samePart.1, m_X1_init.1, m_X1_refresh.1, m_X1_restAt.1, m_X1_measureEntries.1, m_X1_measureRests.1, m_X1_leastRest.1, m_X1_choose.1, m_X1_firstSpot.1, m_X1_nextSpot.1, m_X1_changeCost.1, m_X1_countChange.1, m_X2_init.1, m_X2_dropAll.1, m_X2_remember.1, m_X2_restore.1, m_X3_init.1, m_X3_longest.1, m_X3_findLive.1, m_X3_markFromLive.1, m_X4_init.1, m_X4_read.1, m_X4_readItem.1, m_X4_readCell.1, m_X4_readMode.1, m_X4_readEnd.1, m_X4_atEnd.1, m_X4_readNumber.1, m_X4_isFigure.1, m_X4_skipBlanks.1, m_X5_init.1, m_X5_add.1, m_X5_agreesWith.1, m_X6_init.1, m_X6_dropAll.1, m_X6_isKept.1, m_X6_put.1, m_X6_giveTo.1, m_X7_init.1, m_X7_add.1, m_X7_letterAt.1, m_X8_init.1, m_X8_isPlace.1, m_X8_dropNotes.1, m_X8_append.1, m_X8_removeLast.1, m_X8_replace.1, m_X8_canShift.1, m_X8_shift.1, m_X9_init.1, m_X9_dropMeasures.1, m_X9_measureFrom.1, m_X9_enqueueSharers.1, m_X9_enqueue.1, m_X9_walk.1, m_X9_lowestNearer.1, m_X9_sharesSome.1, m_X9_mostDistant.1, m_L_law.1, m_J_fill.1]
end
section
def k_X10_init : List (Nat × gl_O) := [(0, .aload_n 0, 0, 0, 0, 0), (1, .invokespecial 3, 3, 0, 109, 0), (4, .aload_n 0, 0, 0, 0, 0), (5, .new 9, 7, 0, 112, 0), (8, .dup, 0, 0, 0, 0), (9, .invokespecial 11, 0, 140, 114, 0), (12, .putfield 12, 10, 0, 356, 0), (15, .aload_n 0, 0, 0, 0, 0), (16, .new 16, 0, 0, 128, 0), (19, .dup, 0, 0, 0, 0), (20, .invokespecial 18, 0, 85, 130, 0), (23, .putfield 19, 10, 3, 359, 0), (26, .aload_n 0, 0, 0, 0, 0), (27, .new 23, 4, 0, 171, 0), (30, .dup, 0, 0, 0, 0), (31, .aload_n 0, 0, 0, 0, 0), (32, .getfield 12, 10, 0, 356, 0), (35, .aload_n 0, 0, 0, 0, 0), (36, .getfield 19, 10, 3, 359, 0), (39, .invokespecial 25, 0, 122, 173, 0), (42, .putfield 28, 10, 1, 357, 0), (45, .aload_n 0, 0, 0, 0, 0), (46, .new 16, 0, 0, 128, 0), (49, .dup, 0, 0, 0, 0), (50, .invokespecial 18, 0, 85, 130, 0), (53, .putfield 32, 10, 2, 358, 0), (56, .aload_n 0, 0, 0, 0, 0), (57, .new 35, 8, 0, 190, 0), (60, .dup, 0, 0, 0, 0), (61, .invokespecial 37, 0, 143, 192, 0), (64, .putfield 38, 10, 4, 360, 0), (67, .aload_n 0, 0, 0, 0, 0), (68, .new 42, 2, 0, 216, 0), (71, .dup, 0, 0, 0, 0), (72, .invokespecial 44, 0, 114, 218, 0), (75, .putfield 45, 10, 5, 361, 0), (78, .aload_n 0, 0, 0, 0, 0), (79, .new 49, 6, 0, 249, 0), (82, .dup, 0, 0, 0, 0), (83, .iconst 2, 0, 0, 0, 2), (84, .invokespecial 51, 0, 135, 250, 0), (87, .putfield 54, 10, 6, 362, 0), (90, .aload_n 0, 0, 0, 0, 0), (91, .new 58, 5, 0, 251, 0), (94, .dup, 0, 0, 0, 0), (95, .invokespecial 60, 0, 132, 253, 0), (98, .putfield 61, 10, 7, 363, 0), (101, .aload_n 0, 0, 0, 0, 0), (102, .new 65, 9, 0, 268, 0), (105, .dup, 0, 0, 0, 0), (106, .aload_n 0, 0, 0, 0, 0), (107, .getfield 32, 10, 2, 358, 0), (110, .invokespecial 67, 0, 151, 270, 0), (113, .putfield 70, 10, 8, 364, 0), (116, .aload_n 0, 0, 0, 0, 0), (117, .new 74, 1, 0, 291, 0), (120, .dup, 0, 0, 0, 0), (121, .aload_n 0, 0, 0, 0, 0), (122, .getfield 32, 10, 2, 358, 0), (125, .aload_n 0, 0, 0, 0, 0), (126, .getfield 38, 10, 4, 360, 0), (129, .invokespecial 76, 0, 103, 293, 0), (132, .putfield 79, 10, 9, 365, 0), (135, .return_, 0, 0, 0, 0)]
set_option maxRecDepth 100000 in
theorem ok_X10_init : k_X10_init.all (gl_ok1 gl_mn m_X10_init) = true := by decide +kernel
def k_X10_type : List (Nat × gl_O) := [(0, .iload_n 1, 0, 0, 0, 0), (1, .iconst 0, 0, 0, 0, 0), (2, .sipush 255, 0, 0, 0, 255), (5, .invokestatic 83, 0, 28, 391, 0), (8, .ifCond .ne 5, 0, 0, 0, 0), (11, .iconst (-1), 0, 0, 0, (-1)), (12, .ireturn, 0, 0, 0, 0), (13, .aload_n 0, 0, 0, 0, 0), (14, .getfield 12, 10, 0, 356, 0), (17, .getfield 87, 7, 1, 120, 0), (20, .sipush 130, 0, 0, 0, 130), (23, .if_icmp .lt 6, 0, 0, 0, 0), (26, .bipush (-3), 0, 0, 0, (-3)), (28, .ireturn, 0, 0, 0, 0), (29, .aload_n 0, 0, 0, 0, 0), (30, .getfield 12, 10, 0, 356, 0), (33, .iload_n 1, 0, 0, 0, 0), (34, .invokevirtual 91, 0, 141, 394, 0), (37, .aload_n 0, 0, 0, 0, 0), (38, .getfield 12, 10, 0, 356, 0), (41, .getfield 87, 7, 1, 120, 0), (44, .ireturn, 0, 0, 0, 0)]
set_option maxRecDepth 100000 in
theorem ok_X10_type : k_X10_type.all (gl_ok1 gl_mn m_X10_type) = true := by decide +kernel
def k_X10_clear : List (Nat × gl_O) := [(0, .aload_n 0, 0, 0, 0, 0), (1, .getfield 12, 10, 0, 356, 0), (4, .getfield 87, 7, 1, 120, 0), (7, .istore_n 1, 0, 0, 0, 0), (8, .aload_n 0, 0, 0, 0, 0), (9, .getfield 12, 10, 0, 356, 0), (12, .iconst 0, 0, 0, 0, 0), (13, .putfield 87, 7, 1, 120, 0), (16, .iload_n 1, 0, 0, 0, 0), (17, .ireturn, 0, 0, 0, 0)]
set_option maxRecDepth 100000 in
theorem ok_X10_clear : k_X10_clear.all (gl_ok1 gl_mn m_X10_clear) = true := by decide +kernel
def k_X10_modes : List (Nat × gl_O) := [(0, .aload_n 0, 0, 0, 0, 0), (1, .getfield 28, 10, 1, 357, 0), (4, .invokevirtual 94, 0, 123, 405, 0), (7, .istore_n 1, 0, 0, 0, 0), (8, .iload_n 1, 0, 0, 0, 0), (9, .ifCond .ge 5, 0, 0, 0, 0), (12, .iload_n 1, 0, 0, 0, 0), (13, .ireturn, 0, 0, 0, 0), (14, .aload_n 0, 0, 0, 0, 0), (15, .getfield 12, 10, 0, 356, 0), (18, .iconst 0, 0, 0, 0, 0), (19, .putfield 87, 7, 1, 120, 0), (22, .aload_n 0, 0, 0, 0, 0), (23, .getfield 32, 10, 2, 358, 0), (26, .aload_n 0, 0, 0, 0, 0), (27, .getfield 19, 10, 3, 359, 0), (30, .invokevirtual 98, 0, 87, 451, 0), (33, .aload_n 0, 0, 0, 0, 0), (34, .getfield 70, 10, 8, 364, 0), (37, .invokevirtual 101, 0, 152, 463, 0), (40, .aload_n 0, 0, 0, 0, 0), (41, .getfield 38, 10, 4, 360, 0), (44, .invokevirtual 104, 0, 145, 466, 0), (47, .aload_n 0, 0, 0, 0, 0), (48, .getfield 45, 10, 5, 361, 0), (51, .invokevirtual 107, 0, 115, 469, 0), (54, .aload_n 0, 0, 0, 0, 0), (55, .getfield 54, 10, 6, 362, 0), (58, .invokevirtual 110, 0, 136, 472, 0), (61, .aload_n 0, 0, 0, 0, 0), (62, .getfield 61, 10, 7, 363, 0), (65, .iconst 0, 0, 0, 0, 0), (66, .putfield 111, 5, 2, 260, 0), (69, .iload_n 1, 0, 0, 0, 0), (70, .ireturn, 0, 0, 0, 0)]
set_option maxRecDepth 100000 in
theorem ok_X10_modes : k_X10_modes.all (gl_ok1 gl_mn m_X10_modes) = true := by decide +kernel
def k_X10_cell : List (Nat × gl_O) := [(0, .iload_n 1, 0, 0, 0, 0), (1, .iconst 0, 0, 0, 0, 0), (2, .aload_n 0, 0, 0, 0, 0), (3, .getfield 32, 10, 2, 358, 0), (6, .getfield 114, 0, 0, 136, 0), (9, .iconst 1, 0, 0, 0, 1), (10, .isub, 0, 0, 0, 0), (11, .invokestatic 83, 0, 28, 391, 0), (14, .ifCond .eq 8, 0, 0, 0, 0), (17, .iload_n 2, 0, 0, 0, 0), (18, .iconst (-1), 0, 0, 0, (-1)), (19, .if_icmp .ge 5, 0, 0, 0, 0), (22, .iconst (-1), 0, 0, 0, (-1)), (23, .ireturn, 0, 0, 0, 0), (24, .iload_n 2, 0, 0, 0, 0), (25, .iconst (-1), 0, 0, 0, (-1)), (26, .if_icmp .ne 13, 0, 0, 0, 0), (29, .aload_n 0, 0, 0, 0, 0), (30, .getfield 32, 10, 2, 358, 0), (33, .getfield 117, 0, 1, 138, 0), (36, .iload_n 1, 0, 0, 0, 0), (37, .iaload, 0, 0, 0, 0), (38, .ireturn, 0, 0, 0, 0), (39, .iload_n 2, 0, 0, 0, 0), (40, .aload_n 0, 0, 0, 0, 0), (41, .getfield 32, 10, 2, 358, 0), (44, .getfield 117, 0, 1, 138, 0), (47, .iload_n 1, 0, 0, 0, 0), (48, .iaload, 0, 0, 0, 0), (49, .if_icmp .ge 15, 0, 0, 0, 0), (52, .aload_n 0, 0, 0, 0, 0), (53, .getfield 32, 10, 2, 358, 0), (56, .iload_n 1, 0, 0, 0, 0), (57, .iload_n 2, 0, 0, 0, 0), (58, .invokevirtual 121, 0, 93, 479, 0), (61, .goto 5, 0, 0, 0, 0), (64, .bipush (-9), 0, 0, 0, (-9)), (66, .ireturn, 0, 0, 0, 0)]
set_option maxRecDepth 100000 in
theorem ok_X10_cell : k_X10_cell.all (gl_ok1 gl_mn m_X10_cell) = true := by decide +kernel
def k_X10_part : List (Nat × gl_O) := [(0, .aload_n 0, 0, 0, 0, 0), (1, .getfield 32, 10, 2, 358, 0), (4, .iload_n 1, 0, 0, 0, 0), (5, .invokevirtual 125, 0, 95, 486, 0), (8, .ifCond .eq 17, 0, 0, 0, 0), (11, .iload_n 2, 0, 0, 0, 0), (12, .iconst (-1), 0, 0, 0, (-1)), (13, .if_icmp .lt 12, 0, 0, 0, 0), (16, .iload_n 3, 0, 0, 0, 0), (17, .iconst 0, 0, 0, 0, 0), (18, .iconst 1, 0, 0, 0, 1), (19, .invokestatic 83, 0, 28, 391, 0), (22, .ifCond .ne 5, 0, 0, 0, 0), (25, .iconst (-1), 0, 0, 0, (-1)), (26, .ireturn, 0, 0, 0, 0), (27, .aload_n 0, 0, 0, 0, 0), (28, .getfield 32, 10, 2, 358, 0), (31, .iload_n 1, 0, 0, 0, 0), (32, .invokevirtual 129, 0, 96, 492, 0), (35, .istore 4, 0, 0, 0, 0), (37, .iload_n 2, 0, 0, 0, 0), (38, .iconst (-1), 0, 0, 0, (-1)), (39, .if_icmp .ne 6, 0, 0, 0, 0), (42, .iload 4, 0, 0, 0, 0), (44, .ireturn, 0, 0, 0, 0), (45, .iload_n 2, 0, 0, 0, 0), (46, .iload 4, 0, 0, 0, 0), (48, .if_icmp .lt 6, 0, 0, 0, 0), (51, .bipush (-9), 0, 0, 0, (-9)), (53, .ireturn, 0, 0, 0, 0), (54, .iload_n 3, 0, 0, 0, 0), (55, .ifCond .ne 15, 0, 0, 0, 0), (58, .aload_n 0, 0, 0, 0, 0), (59, .getfield 32, 10, 2, 358, 0), (62, .iload_n 1, 0, 0, 0, 0), (63, .iload_n 2, 0, 0, 0, 0), (64, .invokevirtual 133, 0, 97, 495, 0), (67, .goto 12, 0, 0, 0, 0), (70, .aload_n 0, 0, 0, 0, 0), (71, .getfield 32, 10, 2, 358, 0), (74, .iload_n 1, 0, 0, 0, 0), (75, .iload_n 2, 0, 0, 0, 0), (76, .invokevirtual 136, 0, 98, 498, 0), (79, .ireturn, 0, 0, 0, 0)]
set_option maxRecDepth 100000 in
theorem ok_X10_part : k_X10_part.all (gl_ok1 gl_mn m_X10_part) = true := by decide +kernel
def k_X10_plays : List (Nat × gl_O) := [(0, .iload_n 1, 0, 0, 0, 0), (1, .iconst 0, 0, 0, 0, 0), (2, .bipush 60, 0, 0, 0, 60), (4, .invokestatic 83, 0, 28, 391, 0), (7, .ifCond .ne 5, 0, 0, 0, 0), (10, .iconst (-1), 0, 0, 0, (-1)), (11, .ireturn, 0, 0, 0, 0), (12, .aload_n 0, 0, 0, 0, 0), (13, .getfield 38, 10, 4, 360, 0), (16, .getfield 139, 8, 1, 205, 0), (19, .bipush 16, 0, 0, 0, 16), (21, .if_icmp .lt 6, 0, 0, 0, 0), (24, .bipush (-3), 0, 0, 0, (-3)), (26, .ireturn, 0, 0, 0, 0), (27, .aload_n 0, 0, 0, 0, 0), (28, .getfield 45, 10, 5, 361, 0), (31, .aload_n 0, 0, 0, 0, 0), (32, .getfield 38, 10, 4, 360, 0), (35, .invokevirtual 140, 0, 116, 505, 0), (38, .aload_n 0, 0, 0, 0, 0), (39, .getfield 38, 10, 4, 360, 0), (42, .iload_n 1, 0, 0, 0, 0), (43, .invokevirtual 144, 0, 146, 512, 0), (46, .aload_n 0, 0, 0, 0, 0), (47, .getfield 38, 10, 4, 360, 0), (50, .getfield 139, 8, 1, 205, 0), (53, .ireturn, 0, 0, 0, 0)]
set_option maxRecDepth 100000 in
theorem ok_X10_plays : k_X10_plays.all (gl_ok1 gl_mn m_X10_plays) = true := by decide +kernel
def k_X10_cuts : List (Nat × gl_O) := [(0, .aload_n 0, 0, 0, 0, 0), (1, .getfield 38, 10, 4, 360, 0), (4, .getfield 139, 8, 1, 205, 0), (7, .ifCond .gt 6, 0, 0, 0, 0), (10, .bipush (-2), 0, 0, 0, (-2)), (12, .ireturn, 0, 0, 0, 0), (13, .aload_n 0, 0, 0, 0, 0), (14, .getfield 45, 10, 5, 361, 0), (17, .aload_n 0, 0, 0, 0, 0), (18, .getfield 38, 10, 4, 360, 0), (21, .invokevirtual 140, 0, 116, 505, 0), (24, .aload_n 0, 0, 0, 0, 0), (25, .getfield 38, 10, 4, 360, 0), (28, .invokevirtual 147, 0, 147, 519, 0), (31, .ireturn, 0, 0, 0, 0)]
set_option maxRecDepth 100000 in
theorem ok_X10_cuts : k_X10_cuts.all (gl_ok1 gl_mn m_X10_cuts) = true := by decide +kernel
def k_X10_mends : List (Nat × gl_O) := [(0, .aload_n 0, 0, 0, 0, 0), (1, .getfield 38, 10, 4, 360, 0), (4, .iload_n 1, 0, 0, 0, 0), (5, .invokevirtual 150, 0, 144, 526, 0), (8, .ifCond .eq 13, 0, 0, 0, 0), (11, .iload_n 2, 0, 0, 0, 0), (12, .iconst 0, 0, 0, 0, 0), (13, .bipush 60, 0, 0, 0, 60), (15, .invokestatic 83, 0, 28, 391, 0), (18, .ifCond .ne 5, 0, 0, 0, 0), (21, .iconst (-1), 0, 0, 0, (-1)), (22, .ireturn, 0, 0, 0, 0), (23, .aload_n 0, 0, 0, 0, 0), (24, .getfield 38, 10, 4, 360, 0), (27, .getfield 153, 8, 0, 200, 0), (30, .iload_n 1, 0, 0, 0, 0), (31, .iaload, 0, 0, 0, 0), (32, .iload_n 2, 0, 0, 0, 0), (33, .if_icmp .ne 6, 0, 0, 0, 0), (36, .bipush (-2), 0, 0, 0, (-2)), (38, .ireturn, 0, 0, 0, 0), (39, .aload_n 0, 0, 0, 0, 0), (40, .getfield 45, 10, 5, 361, 0), (43, .aload_n 0, 0, 0, 0, 0), (44, .getfield 38, 10, 4, 360, 0), (47, .invokevirtual 140, 0, 116, 505, 0), (50, .aload_n 0, 0, 0, 0, 0), (51, .getfield 38, 10, 4, 360, 0), (54, .iload_n 1, 0, 0, 0, 0), (55, .iload_n 2, 0, 0, 0, 0), (56, .invokevirtual 156, 0, 148, 529, 0), (59, .ireturn, 0, 0, 0, 0)]
set_option maxRecDepth 100000 in
theorem ok_X10_mends : k_X10_mends.all (gl_ok1 gl_mn m_X10_mends) = true := by decide +kernel
def k_X10_moves : List (Nat × gl_O) := [(0, .iload_n 1, 0, 0, 0, 0), (1, .bipush (-20), 0, 0, 0, (-20)), (3, .bipush 20, 0, 0, 0, 20), (5, .invokestatic 83, 0, 28, 391, 0), (8, .ifCond .eq 14, 0, 0, 0, 0), (11, .aload_n 0, 0, 0, 0, 0), (12, .getfield 38, 10, 4, 360, 0), (15, .iload_n 1, 0, 0, 0, 0), (16, .invokevirtual 159, 0, 149, 536, 0), (19, .ifCond .ne 5, 0, 0, 0, 0), (22, .iconst (-1), 0, 0, 0, (-1)), (23, .ireturn, 0, 0, 0, 0), (24, .aload_n 0, 0, 0, 0, 0), (25, .getfield 38, 10, 4, 360, 0), (28, .getfield 139, 8, 1, 205, 0), (31, .ifCond .eq 7, 0, 0, 0, 0), (34, .iload_n 1, 0, 0, 0, 0), (35, .ifCond .ne 6, 0, 0, 0, 0), (38, .bipush (-2), 0, 0, 0, (-2)), (40, .ireturn, 0, 0, 0, 0), (41, .aload_n 0, 0, 0, 0, 0), (42, .getfield 45, 10, 5, 361, 0), (45, .aload_n 0, 0, 0, 0, 0), (46, .getfield 38, 10, 4, 360, 0), (49, .invokevirtual 140, 0, 116, 505, 0), (52, .aload_n 0, 0, 0, 0, 0), (53, .getfield 38, 10, 4, 360, 0), (56, .iload_n 1, 0, 0, 0, 0), (57, .invokevirtual 162, 0, 150, 540, 0), (60, .aload_n 0, 0, 0, 0, 0), (61, .getfield 38, 10, 4, 360, 0), (64, .getfield 139, 8, 1, 205, 0), (67, .ireturn, 0, 0, 0, 0)]
set_option maxRecDepth 100000 in
theorem ok_X10_moves : k_X10_moves.all (gl_ok1 gl_mn m_X10_moves) = true := by decide +kernel
def k_X10_undo : List (Nat × gl_O) := [(0, .aload_n 0, 0, 0, 0, 0), (1, .getfield 45, 10, 5, 361, 0), (4, .getfield 165, 2, 2, 241, 0), (7, .ifCond .gt 6, 0, 0, 0, 0), (10, .bipush (-2), 0, 0, 0, (-2)), (12, .ireturn, 0, 0, 0, 0), (13, .aload_n 0, 0, 0, 0, 0), (14, .getfield 45, 10, 5, 361, 0), (17, .aload_n 0, 0, 0, 0, 0), (18, .getfield 38, 10, 4, 360, 0), (21, .invokevirtual 168, 0, 117, 547, 0), (24, .aload_n 0, 0, 0, 0, 0), (25, .getfield 45, 10, 5, 361, 0), (28, .getfield 165, 2, 2, 241, 0), (31, .ireturn, 0, 0, 0, 0)]
set_option maxRecDepth 100000 in
theorem ok_X10_undo : k_X10_undo.all (gl_ok1 gl_mn m_X10_undo) = true := by decide +kernel
def k_X10_note : List (Nat × gl_O) := [(0, .aload_n 0, 0, 0, 0, 0), (1, .getfield 38, 10, 4, 360, 0), (4, .iload_n 1, 0, 0, 0, 0), (5, .invokevirtual 150, 0, 144, 526, 0), (8, .ifCond .eq 15, 0, 0, 0, 0), (11, .aload_n 0, 0, 0, 0, 0), (12, .getfield 38, 10, 4, 360, 0), (15, .getfield 153, 8, 0, 200, 0), (18, .iload_n 1, 0, 0, 0, 0), (19, .iaload, 0, 0, 0, 0), (20, .goto 4, 0, 0, 0, 0), (23, .iconst (-1), 0, 0, 0, (-1)), (24, .ireturn, 0, 0, 0, 0)]
set_option maxRecDepth 100000 in
theorem ok_X10_note : k_X10_note.all (gl_ok1 gl_mn m_X10_note) = true := by decide +kernel
def k_X10_has : List (Nat × gl_O) := [(0, .aload_n 0, 0, 0, 0, 0), (1, .getfield 32, 10, 2, 358, 0), (4, .iload_n 1, 0, 0, 0, 0), (5, .invokevirtual 125, 0, 95, 486, 0), (8, .ifCond .eq 13, 0, 0, 0, 0), (11, .iload_n 2, 0, 0, 0, 0), (12, .iconst 0, 0, 0, 0, 0), (13, .bipush 60, 0, 0, 0, 60), (15, .invokestatic 83, 0, 28, 391, 0), (18, .ifCond .ne 5, 0, 0, 0, 0), (21, .iconst (-1), 0, 0, 0, (-1)), (22, .ireturn, 0, 0, 0, 0), (23, .aload_n 0, 0, 0, 0, 0), (24, .getfield 32, 10, 2, 358, 0), (27, .iload_n 1, 0, 0, 0, 0), (28, .iload_n 2, 0, 0, 0, 0), (29, .invokevirtual 171, 0, 101, 561, 0), (32, .ireturn, 0, 0, 0, 0)]
set_option maxRecDepth 100000 in
theorem ok_X10_has : k_X10_has.all (gl_ok1 gl_mn m_X10_has) = true := by decide +kernel
def k_X10_shares : List (Nat × gl_O) := [(0, .aload_n 0, 0, 0, 0, 0), (1, .getfield 32, 10, 2, 358, 0), (4, .iload_n 1, 0, 0, 0, 0), (5, .invokevirtual 125, 0, 95, 486, 0), (8, .ifCond .eq 19, 0, 0, 0, 0), (11, .aload_n 0, 0, 0, 0, 0), (12, .getfield 32, 10, 2, 358, 0), (15, .iload_n 2, 0, 0, 0, 0), (16, .invokevirtual 125, 0, 95, 486, 0), (19, .ifCond .eq 8, 0, 0, 0, 0), (22, .iload_n 3, 0, 0, 0, 0), (23, .iconst (-1), 0, 0, 0, (-1)), (24, .if_icmp .ge 5, 0, 0, 0, 0), (27, .iconst (-1), 0, 0, 0, (-1)), (28, .ireturn, 0, 0, 0, 0), (29, .iconst 0, 0, 0, 0, 0), (30, .istore 4, 0, 0, 0, 0), (32, .iconst 0, 0, 0, 0, 0), (33, .istore 5, 0, 0, 0, 0), (35, .iload 5, 0, 0, 0, 0), (37, .aload_n 0, 0, 0, 0, 0), (38, .getfield 32, 10, 2, 358, 0), (41, .iload_n 1, 0, 0, 0, 0), (42, .invokevirtual 129, 0, 96, 492, 0), (45, .if_icmp .ge 36, 0, 0, 0, 0), (48, .aload_n 0, 0, 0, 0, 0), (49, .getfield 32, 10, 2, 358, 0), (52, .iload_n 1, 0, 0, 0, 0), (53, .iload 5, 0, 0, 0, 0), (55, .iload_n 2, 0, 0, 0, 0), (56, .invokevirtual 174, 0, 102, 574, 0), (59, .iconst (-1), 0, 0, 0, (-1)), (60, .if_icmp .eq 15, 0, 0, 0, 0), (63, .iload 4, 0, 0, 0, 0), (65, .iload_n 3, 0, 0, 0, 0), (66, .if_icmp .ne 6, 0, 0, 0, 0), (69, .iload 5, 0, 0, 0, 0), (71, .ireturn, 0, 0, 0, 0), (72, .iinc 4 1, 0, 0, 0, 1), (75, .iinc 5 1, 0, 0, 0, 1), (78, .goto (-43), 0, 0, 0, 0), (81, .iload_n 3, 0, 0, 0, 0), (82, .iconst (-1), 0, 0, 0, (-1)), (83, .if_icmp .ne 8, 0, 0, 0, 0), (86, .iload 4, 0, 0, 0, 0), (88, .goto 5, 0, 0, 0, 0), (91, .bipush (-9), 0, 0, 0, (-9)), (93, .ireturn, 0, 0, 0, 0)]
set_option maxRecDepth 100000 in
theorem ok_X10_shares : k_X10_shares.all (gl_ok1 gl_mn m_X10_shares) = true := by decide +kernel
def k_X10_way : List (Nat × gl_O) := [(0, .aload_n 0, 0, 0, 0, 0), (1, .getfield 32, 10, 2, 358, 0), (4, .iload_n 1, 0, 0, 0, 0), (5, .invokevirtual 125, 0, 95, 486, 0), (8, .ifCond .eq 19, 0, 0, 0, 0), (11, .aload_n 0, 0, 0, 0, 0), (12, .getfield 32, 10, 2, 358, 0), (15, .iload_n 2, 0, 0, 0, 0), (16, .invokevirtual 125, 0, 95, 486, 0), (19, .ifCond .eq 8, 0, 0, 0, 0), (22, .iload_n 3, 0, 0, 0, 0), (23, .iconst (-1), 0, 0, 0, (-1)), (24, .if_icmp .ge 5, 0, 0, 0, 0), (27, .iconst (-1), 0, 0, 0, (-1)), (28, .ireturn, 0, 0, 0, 0), (29, .aload_n 0, 0, 0, 0, 0), (30, .getfield 70, 10, 8, 364, 0), (33, .iload_n 2, 0, 0, 0, 0), (34, .invokevirtual 178, 0, 153, 584, 0), (37, .aload_n 0, 0, 0, 0, 0), (38, .getfield 70, 10, 8, 364, 0), (41, .getfield 181, 9, 1, 276, 0), (44, .iload_n 1, 0, 0, 0, 0), (45, .iaload, 0, 0, 0, 0), (46, .istore 4, 0, 0, 0, 0), (48, .iload 4, 0, 0, 0, 0), (50, .ifCond .ne 6, 0, 0, 0, 0), (53, .bipush (-9), 0, 0, 0, (-9)), (55, .ireturn, 0, 0, 0, 0), (56, .iload_n 3, 0, 0, 0, 0), (57, .iconst (-1), 0, 0, 0, (-1)), (58, .if_icmp .ne 6, 0, 0, 0, 0), (61, .iload 4, 0, 0, 0, 0), (63, .ireturn, 0, 0, 0, 0), (64, .iload_n 3, 0, 0, 0, 0), (65, .iload 4, 0, 0, 0, 0), (67, .if_icmp .ge 15, 0, 0, 0, 0), (70, .aload_n 0, 0, 0, 0, 0), (71, .getfield 70, 10, 8, 364, 0), (74, .iload_n 1, 0, 0, 0, 0), (75, .iload_n 3, 0, 0, 0, 0), (76, .invokevirtual 184, 0, 156, 598, 0), (79, .goto 5, 0, 0, 0, 0), (82, .bipush (-9), 0, 0, 0, (-9)), (84, .ireturn, 0, 0, 0, 0)]
set_option maxRecDepth 100000 in
theorem ok_X10_way : k_X10_way.all (gl_ok1 gl_mn m_X10_way) = true := by decide +kernel
def k_X10_farthest : List (Nat × gl_O) := [(0, .aload_n 0, 0, 0, 0, 0), (1, .getfield 32, 10, 2, 358, 0), (4, .iload_n 1, 0, 0, 0, 0), (5, .invokevirtual 125, 0, 95, 486, 0), (8, .ifCond .eq 12, 0, 0, 0, 0), (11, .iload_n 2, 0, 0, 0, 0), (12, .iconst 0, 0, 0, 0, 0), (13, .iconst 1, 0, 0, 0, 1), (14, .invokestatic 83, 0, 28, 391, 0), (17, .ifCond .ne 5, 0, 0, 0, 0), (20, .iconst (-1), 0, 0, 0, (-1)), (21, .ireturn, 0, 0, 0, 0), (22, .aload_n 0, 0, 0, 0, 0), (23, .getfield 70, 10, 8, 364, 0), (26, .iload_n 1, 0, 0, 0, 0), (27, .invokevirtual 178, 0, 153, 584, 0), (30, .aload_n 0, 0, 0, 0, 0), (31, .getfield 70, 10, 8, 364, 0), (34, .invokevirtual 187, 0, 159, 613, 0), (37, .istore_n 3, 0, 0, 0, 0), (38, .iload_n 2, 0, 0, 0, 0), (39, .ifCond .ne 15, 0, 0, 0, 0), (42, .aload_n 0, 0, 0, 0, 0), (43, .getfield 70, 10, 8, 364, 0), (46, .getfield 181, 9, 1, 276, 0), (49, .iload_n 3, 0, 0, 0, 0), (50, .iaload, 0, 0, 0, 0), (51, .goto 4, 0, 0, 0, 0), (54, .iload_n 3, 0, 0, 0, 0), (55, .ireturn, 0, 0, 0, 0)]
set_option maxRecDepth 100000 in
theorem ok_X10_farthest : k_X10_farthest.all (gl_ok1 gl_mn m_X10_farthest) = true := by decide +kernel
def k_X10_parse : List (Nat × gl_O) := [(0, .iload_n 1, 0, 0, 0, 0), (1, .iconst 0, 0, 0, 0, 0), (2, .iconst 2, 0, 0, 0, 2), (3, .invokestatic 83, 0, 28, 391, 0), (6, .ifCond .ne 5, 0, 0, 0, 0), (9, .iconst (-1), 0, 0, 0, (-1)), (10, .ireturn, 0, 0, 0, 0), (11, .aload_n 0, 0, 0, 0, 0), (12, .getfield 79, 10, 9, 365, 0), (15, .invokevirtual 190, 0, 104, 620, 0), (18, .aload_n 0, 0, 0, 0, 0), (19, .getfield 79, 10, 9, 365, 0), (22, .getfield 193, 1, 6, 325, 0), (25, .ifCond .ne 6, 0, 0, 0, 0), (28, .bipush (-9), 0, 0, 0, (-9)), (30, .ireturn, 0, 0, 0, 0), (31, .iload_n 1, 0, 0, 0, 0), (32, .ifCond .ne 24, 0, 0, 0, 0), (35, .aload_n 0, 0, 0, 0, 0), (36, .getfield 79, 10, 9, 365, 0), (39, .getfield 197, 1, 7, 327, 0), (42, .bipush 10, 0, 0, 0, 10), (44, .imul, 0, 0, 0, 0), (45, .aload_n 0, 0, 0, 0, 0), (46, .getfield 79, 10, 9, 365, 0), (49, .getfield 200, 1, 8, 329, 0), (52, .iconst 1, 0, 0, 0, 1), (53, .imul, 0, 0, 0, 0), (54, .iadd, 0, 0, 0, 0), (55, .ireturn, 0, 0, 0, 0), (56, .iload_n 1, 0, 0, 0, 0), (57, .iconst 1, 0, 0, 0, 1), (58, .if_icmp .ne 13, 0, 0, 0, 0), (61, .aload_n 0, 0, 0, 0, 0), (62, .getfield 79, 10, 9, 365, 0), (65, .getfield 197, 1, 7, 327, 0), (68, .goto 10, 0, 0, 0, 0), (71, .aload_n 0, 0, 0, 0, 0), (72, .getfield 79, 10, 9, 365, 0), (75, .getfield 200, 1, 8, 329, 0), (78, .ireturn, 0, 0, 0, 0)]
set_option maxRecDepth 100000 in
theorem ok_X10_parse : k_X10_parse.all (gl_ok1 gl_mn m_X10_parse) = true := by decide +kernel
def k_X10_parsed : List (Nat × gl_O) := [(0, .aload_n 0, 0, 0, 0, 0), (1, .getfield 38, 10, 4, 360, 0), (4, .iload_n 1, 0, 0, 0, 0), (5, .invokevirtual 150, 0, 144, 526, 0), (8, .ifCond .eq 12, 0, 0, 0, 0), (11, .iload_n 2, 0, 0, 0, 0), (12, .iconst 0, 0, 0, 0, 0), (13, .iconst 1, 0, 0, 0, 1), (14, .invokestatic 83, 0, 28, 391, 0), (17, .ifCond .ne 5, 0, 0, 0, 0), (20, .iconst (-1), 0, 0, 0, (-1)), (21, .ireturn, 0, 0, 0, 0), (22, .aload_n 0, 0, 0, 0, 0), (23, .getfield 79, 10, 9, 365, 0), (26, .invokevirtual 190, 0, 104, 620, 0), (29, .aload_n 0, 0, 0, 0, 0), (30, .getfield 79, 10, 9, 365, 0), (33, .getfield 193, 1, 6, 325, 0), (36, .ifCond .ne 6, 0, 0, 0, 0), (39, .bipush (-9), 0, 0, 0, (-9)), (41, .ireturn, 0, 0, 0, 0), (42, .aload_n 0, 0, 0, 0, 0), (43, .getfield 79, 10, 9, 365, 0), (46, .getfield 203, 1, 5, 323, 0), (49, .iload_n 1, 0, 0, 0, 0), (50, .iaload, 0, 0, 0, 0), (51, .istore_n 3, 0, 0, 0, 0), (52, .iload_n 2, 0, 0, 0, 0), (53, .ifCond .ne 10, 0, 0, 0, 0), (56, .iload_n 3, 0, 0, 0, 0), (57, .invokestatic 206, 0, 30, 685, 0), (60, .goto 7, 0, 0, 0, 0), (63, .iload_n 3, 0, 0, 0, 0), (64, .invokestatic 209, 0, 31, 686, 0), (67, .ireturn, 0, 0, 0, 0)]
set_option maxRecDepth 100000 in
theorem ok_X10_parsed : k_X10_parsed.all (gl_ok1 gl_mn m_X10_parsed) = true := by decide +kernel
def k_X10_reach : List (Nat × gl_O) := [(0, .aload_n 0, 0, 0, 0, 0), (1, .getfield 79, 10, 9, 365, 0), (4, .invokevirtual 190, 0, 104, 620, 0), (7, .aload_n 0, 0, 0, 0, 0), (8, .getfield 79, 10, 9, 365, 0), (11, .getfield 212, 1, 9, 331, 0), (14, .ireturn, 0, 0, 0, 0)]
set_option maxRecDepth 100000 in
theorem ok_X10_reach : k_X10_reach.all (gl_ok1 gl_mn m_X10_reach) = true := by decide +kernel
def k_X10_fit : List (Nat × gl_O) := [(0, .aload_n 0, 0, 0, 0, 0), (1, .getfield 32, 10, 2, 358, 0), (4, .iload_n 1, 0, 0, 0, 0), (5, .invokevirtual 125, 0, 95, 486, 0), (8, .ifCond .eq 11, 0, 0, 0, 0), (11, .aload_n 0, 0, 0, 0, 0), (12, .iload_n 1, 0, 0, 0, 0), (13, .invokevirtual 215, 0, 27, 695, 0), (16, .goto 4, 0, 0, 0, 0), (19, .iconst (-1), 0, 0, 0, (-1)), (20, .ireturn, 0, 0, 0, 0)]
set_option maxRecDepth 100000 in
theorem ok_X10_fit : k_X10_fit.all (gl_ok1 gl_mn m_X10_fit) = true := by decide +kernel
def k_X10_home : List (Nat × gl_O) := [(0, .bipush (-9), 0, 0, 0, (-9)), (2, .istore_n 1, 0, 0, 0, 0), (3, .iconst (-1), 0, 0, 0, (-1)), (4, .istore_n 2, 0, 0, 0, 0), (5, .iconst 0, 0, 0, 0, 0), (6, .istore_n 3, 0, 0, 0, 0), (7, .iload_n 3, 0, 0, 0, 0), (8, .aload_n 0, 0, 0, 0, 0), (9, .getfield 32, 10, 2, 358, 0), (12, .invokevirtual 218, 0, 94, 702, 0), (15, .if_icmp .ge 27, 0, 0, 0, 0), (18, .aload_n 0, 0, 0, 0, 0), (19, .iload_n 3, 0, 0, 0, 0), (20, .invokevirtual 215, 0, 27, 695, 0), (23, .istore 4, 0, 0, 0, 0), (25, .iload 4, 0, 0, 0, 0), (27, .iload_n 2, 0, 0, 0, 0), (28, .if_icmp .le 8, 0, 0, 0, 0), (31, .iload 4, 0, 0, 0, 0), (33, .istore_n 2, 0, 0, 0, 0), (34, .iload_n 3, 0, 0, 0, 0), (35, .istore_n 1, 0, 0, 0, 0), (36, .iinc 3 1, 0, 0, 0, 1), (39, .goto (-32), 0, 0, 0, 0), (42, .iload_n 1, 0, 0, 0, 0), (43, .ireturn, 0, 0, 0, 0)]
set_option maxRecDepth 100000 in
theorem ok_X10_home : k_X10_home.all (gl_ok1 gl_mn m_X10_home) = true := by decide +kernel
def k_X10_sees : List (Nat × gl_O) := [(0, .iload_n 1, 0, 0, 0, 0), (1, .iconst 0, 0, 0, 0, 0), (2, .bipush 120, 0, 0, 0, 120), (4, .invokestatic 83, 0, 28, 391, 0), (7, .ifCond .eq 12, 0, 0, 0, 0), (10, .iload_n 2, 0, 0, 0, 0), (11, .iconst 0, 0, 0, 0, 0), (12, .iconst 1, 0, 0, 0, 1), (13, .invokestatic 83, 0, 28, 391, 0), (16, .ifCond .ne 5, 0, 0, 0, 0), (19, .iconst (-1), 0, 0, 0, (-1)), (20, .ireturn, 0, 0, 0, 0), (21, .aload_n 0, 0, 0, 0, 0), (22, .getfield 61, 10, 7, 363, 0), (25, .getfield 111, 5, 2, 260, 0), (28, .bipush 8, 0, 0, 0, 8), (30, .if_icmp .lt 6, 0, 0, 0, 0), (33, .bipush (-3), 0, 0, 0, (-3)), (35, .ireturn, 0, 0, 0, 0), (36, .aload_n 0, 0, 0, 0, 0), (37, .getfield 61, 10, 7, 363, 0), (40, .iload_n 1, 0, 0, 0, 0), (41, .iload_n 2, 0, 0, 0, 0), (42, .invokevirtual 221, 0, 133, 707, 0), (45, .aload_n 0, 0, 0, 0, 0), (46, .getfield 61, 10, 7, 363, 0), (49, .getfield 111, 5, 2, 260, 0), (52, .ireturn, 0, 0, 0, 0)]
set_option maxRecDepth 100000 in
theorem ok_X10_sees : k_X10_sees.all (gl_ok1 gl_mn m_X10_sees) = true := by decide +kernel
def k_X10_forget : List (Nat × gl_O) := [(0, .aload_n 0, 0, 0, 0, 0), (1, .getfield 61, 10, 7, 363, 0), (4, .getfield 111, 5, 2, 260, 0), (7, .istore_n 1, 0, 0, 0, 0), (8, .aload_n 0, 0, 0, 0, 0), (9, .getfield 61, 10, 7, 363, 0), (12, .iconst 0, 0, 0, 0, 0), (13, .putfield 111, 5, 2, 260, 0), (16, .iload_n 1, 0, 0, 0, 0), (17, .ireturn, 0, 0, 0, 0)]
set_option maxRecDepth 100000 in
theorem ok_X10_forget : k_X10_forget.all (gl_ok1 gl_mn m_X10_forget) = true := by decide +kernel
def k_X10_unseen : List (Nat × gl_O) := [(0, .iconst 0, 0, 0, 0, 0), (1, .istore_n 1, 0, 0, 0, 0), (2, .iconst 0, 0, 0, 0, 0), (3, .istore_n 2, 0, 0, 0, 0), (4, .iload_n 2, 0, 0, 0, 0), (5, .aload_n 0, 0, 0, 0, 0), (6, .getfield 32, 10, 2, 358, 0), (9, .invokevirtual 218, 0, 94, 702, 0), (12, .if_icmp .ge 33, 0, 0, 0, 0), (15, .aload_n 0, 0, 0, 0, 0), (16, .getfield 61, 10, 7, 363, 0), (19, .aload_n 0, 0, 0, 0, 0), (20, .getfield 32, 10, 2, 358, 0), (23, .iload_n 2, 0, 0, 0, 0), (24, .invokevirtual 224, 0, 134, 718, 0), (27, .ifCond .eq 12, 0, 0, 0, 0), (30, .iload_n 1, 0, 0, 0, 0), (31, .iconst 1, 0, 0, 0, 1), (32, .iload_n 2, 0, 0, 0, 0), (33, .bipush 24, 0, 0, 0, 24), (35, .idiv, 0, 0, 0, 0), (36, .ishl, 0, 0, 0, 0), (37, .ior, 0, 0, 0, 0), (38, .istore_n 1, 0, 0, 0, 0), (39, .iinc 2 1, 0, 0, 0, 1), (42, .goto (-38), 0, 0, 0, 0), (45, .iload_n 1, 0, 0, 0, 0), (46, .ireturn, 0, 0, 0, 0)]
set_option maxRecDepth 100000 in
theorem ok_X10_unseen : k_X10_unseen.all (gl_ok1 gl_mn m_X10_unseen) = true := by decide +kernel
def k_X10_keep : List (Nat × gl_O) := [(0, .iload_n 1, 0, 0, 0, 0), (1, .iconst 0, 0, 0, 0, 0), (2, .iconst 1, 0, 0, 0, 1), (3, .invokestatic 83, 0, 28, 391, 0), (6, .ifCond .ne 5, 0, 0, 0, 0), (9, .iconst (-1), 0, 0, 0, (-1)), (10, .ireturn, 0, 0, 0, 0), (11, .aload_n 0, 0, 0, 0, 0), (12, .getfield 54, 10, 6, 362, 0), (15, .iload_n 1, 0, 0, 0, 0), (16, .aload_n 0, 0, 0, 0, 0), (17, .getfield 38, 10, 4, 360, 0), (20, .invokevirtual 228, 0, 138, 726, 0), (23, .aload_n 0, 0, 0, 0, 0), (24, .getfield 38, 10, 4, 360, 0), (27, .getfield 139, 8, 1, 205, 0), (30, .ireturn, 0, 0, 0, 0)]
set_option maxRecDepth 100000 in
theorem ok_X10_keep : k_X10_keep.all (gl_ok1 gl_mn m_X10_keep) = true := by decide +kernel
def k_X10_back : List (Nat × gl_O) := [(0, .iload_n 1, 0, 0, 0, 0), (1, .iconst 0, 0, 0, 0, 0), (2, .iconst 1, 0, 0, 0, 1), (3, .invokestatic 83, 0, 28, 391, 0), (6, .ifCond .ne 5, 0, 0, 0, 0), (9, .iconst (-1), 0, 0, 0, (-1)), (10, .ireturn, 0, 0, 0, 0), (11, .aload_n 0, 0, 0, 0, 0), (12, .getfield 54, 10, 6, 362, 0), (15, .iload_n 1, 0, 0, 0, 0), (16, .invokevirtual 232, 0, 137, 731, 0), (19, .ifCond .ne 6, 0, 0, 0, 0), (22, .bipush (-2), 0, 0, 0, (-2)), (24, .ireturn, 0, 0, 0, 0), (25, .aload_n 0, 0, 0, 0, 0), (26, .getfield 54, 10, 6, 362, 0), (29, .aload_n 0, 0, 0, 0, 0), (30, .getfield 38, 10, 4, 360, 0), (33, .iload_n 1, 0, 0, 0, 0), (34, .invokevirtual 235, 0, 139, 734, 0), (37, .aload_n 0, 0, 0, 0, 0), (38, .getfield 45, 10, 5, 361, 0), (41, .invokevirtual 107, 0, 115, 469, 0), (44, .aload_n 0, 0, 0, 0, 0), (45, .getfield 38, 10, 4, 360, 0), (48, .getfield 139, 8, 1, 205, 0), (51, .ireturn, 0, 0, 0, 0)]
set_option maxRecDepth 100000 in
theorem ok_X10_back : k_X10_back.all (gl_ok1 gl_mn m_X10_back) = true := by decide +kernel
def k_X10_count : List (Nat × gl_O) := [(0, .iload_n 1, 0, 0, 0, 0), (40, .aload_n 0, 0, 0, 0, 0), (41, .getfield 32, 10, 2, 358, 0), (44, .getfield 114, 0, 0, 136, 0), (47, .ireturn, 0, 0, 0, 0), (48, .aload_n 0, 0, 0, 0, 0), (49, .getfield 32, 10, 2, 358, 0), (52, .getfield 239, 0, 5, 145, 0), (55, .ireturn, 0, 0, 0, 0), (56, .aload_n 0, 0, 0, 0, 0), (57, .getfield 38, 10, 4, 360, 0), (60, .getfield 139, 8, 1, 205, 0), (63, .ireturn, 0, 0, 0, 0), (64, .aload_n 0, 0, 0, 0, 0), (65, .getfield 61, 10, 7, 363, 0), (68, .getfield 111, 5, 2, 260, 0), (71, .ireturn, 0, 0, 0, 0), (72, .aload_n 0, 0, 0, 0, 0), (73, .getfield 12, 10, 0, 356, 0), (76, .getfield 87, 7, 1, 120, 0), (79, .ireturn, 0, 0, 0, 0), (80, .aload_n 0, 0, 0, 0, 0), (81, .getfield 45, 10, 5, 361, 0), (84, .getfield 165, 2, 2, 241, 0), (87, .ireturn, 0, 0, 0, 0), (88, .iconst (-1), 0, 0, 0, (-1)), (89, .ireturn, 0, 0, 0, 0)]
set_option maxRecDepth 100000 in
theorem ok_X10_count : k_X10_count.all (gl_ok1 gl_mn m_X10_count) = true := by decide +kernel
def k_X10_fitOf : List (Nat × gl_O) := [(0, .iconst 0, 0, 0, 0, 0), (1, .istore_n 2, 0, 0, 0, 0), (2, .iconst 0, 0, 0, 0, 0), (3, .istore_n 3, 0, 0, 0, 0), (4, .iload_n 3, 0, 0, 0, 0), (5, .aload_n 0, 0, 0, 0, 0), (6, .getfield 38, 10, 4, 360, 0), (9, .getfield 139, 8, 1, 205, 0), (12, .if_icmp .ge 32, 0, 0, 0, 0), (15, .aload_n 0, 0, 0, 0, 0), (16, .getfield 32, 10, 2, 358, 0), (19, .iload_n 1, 0, 0, 0, 0), (20, .aload_n 0, 0, 0, 0, 0), (21, .getfield 38, 10, 4, 360, 0), (24, .getfield 153, 8, 0, 200, 0), (27, .iload_n 3, 0, 0, 0, 0), (28, .iaload, 0, 0, 0, 0), (29, .invokevirtual 171, 0, 101, 561, 0), (32, .ifCond .le 6, 0, 0, 0, 0), (35, .iinc 2 1, 0, 0, 0, 1), (38, .iinc 3 1, 0, 0, 0, 1), (41, .goto (-37), 0, 0, 0, 0), (44, .iload_n 2, 0, 0, 0, 0), (45, .ireturn, 0, 0, 0, 0)]
set_option maxRecDepth 100000 in
theorem ok_X10_fitOf : k_X10_fitOf.all (gl_ok1 gl_mn m_X10_fitOf) = true := by decide +kernel
def k_X10_within : List (Nat × gl_O) := [(0, .iload_n 0, 0, 0, 0, 0), (1, .iload_n 1, 0, 0, 0, 0), (2, .if_icmp .lt 12, 0, 0, 0, 0), (5, .iload_n 0, 0, 0, 0, 0), (6, .iload_n 2, 0, 0, 0, 0), (7, .if_icmp .gt 7, 0, 0, 0, 0), (10, .iconst 1, 0, 0, 0, 1), (11, .goto 4, 0, 0, 0, 0), (14, .iconst 0, 0, 0, 0, 0), (15, .ireturn, 0, 0, 0, 0)]
set_option maxRecDepth 100000 in
theorem ok_X10_within : k_X10_within.all (gl_ok1 gl_mn m_X10_within) = true := by decide +kernel
def k_X10_spotOf : List (Nat × gl_O) := [(0, .iload_n 0, 0, 0, 0, 0), (1, .iconst 4, 0, 0, 0, 4), (2, .imul, 0, 0, 0, 0), (3, .iload_n 1, 0, 0, 0, 0), (4, .iadd, 0, 0, 0, 0), (5, .ireturn, 0, 0, 0, 0)]
set_option maxRecDepth 100000 in
theorem ok_X10_spotOf : k_X10_spotOf.all (gl_ok1 gl_mn m_X10_spotOf) = true := by decide +kernel
def k_X10_scaleOfSpot : List (Nat × gl_O) := [(0, .iload_n 0, 0, 0, 0, 0), (1, .iconst 4, 0, 0, 0, 4), (2, .idiv, 0, 0, 0, 0), (3, .ireturn, 0, 0, 0, 0)]
set_option maxRecDepth 100000 in
theorem ok_X10_scaleOfSpot : k_X10_scaleOfSpot.all (gl_ok1 gl_mn m_X10_scaleOfSpot) = true := by decide +kernel
def k_X10_partOfSpot : List (Nat × gl_O) := [(0, .iload_n 0, 0, 0, 0, 0), (1, .iconst 4, 0, 0, 0, 4), (2, .irem, 0, 0, 0, 0), (3, .ireturn, 0, 0, 0, 0)]
set_option maxRecDepth 100000 in
theorem ok_X10_partOfSpot : k_X10_partOfSpot.all (gl_ok1 gl_mn m_X10_partOfSpot) = true := by decide +kernel
def k_X11_init : List (Nat × gl_O) := [(0, .aload_n 0, 0, 0, 0, 0), (1, .invokespecial 1, 3, 0, 744, 0), (4, .aload_n 0, 0, 0, 0, 0), (5, .bipush 30, 0, 0, 0, 30), (7, .newarray .int, 0, 0, 0, 0), (9, .putfield 7, 11, 3, 748, 0), (12, .aload_n 0, 0, 0, 0, 0), (13, .bipush 54, 0, 0, 0, 54), (15, .newarray .int, 0, 0, 0, 0), (17, .putfield 13, 11, 4, 749, 0), (20, .aload_n 0, 0, 0, 0, 0), (21, .bipush 24, 0, 0, 0, 24), (23, .newarray .int, 0, 0, 0, 0), (25, .putfield 16, 11, 5, 750, 0), (28, .aload_n 0, 0, 0, 0, 0), (29, .bipush 30, 0, 0, 0, 30), (31, .newarray .int, 0, 0, 0, 0), (33, .putfield 19, 11, 8, 753, 0), (36, .aload_n 0, 0, 0, 0, 0), (37, .bipush 54, 0, 0, 0, 54), (39, .newarray .int, 0, 0, 0, 0), (41, .putfield 22, 11, 9, 754, 0), (44, .aload_n 0, 0, 0, 0, 0), (45, .bipush 17, 0, 0, 0, 17), (47, .newarray .int, 0, 0, 0, 0), (49, .putfield 25, 11, 10, 755, 0), (52, .aload_n 0, 0, 0, 0, 0), (53, .sipush 170, 0, 0, 0, 170), (56, .newarray .int, 0, 0, 0, 0), (58, .putfield 28, 11, 11, 756, 0), (61, .aload_n 0, 0, 0, 0, 0), (62, .bipush 34, 0, 0, 0, 34), (64, .newarray .int, 0, 0, 0, 0), (66, .putfield 31, 11, 13, 758, 0), (69, .aload_n 0, 0, 0, 0, 0), (70, .iconst 2, 0, 0, 0, 2), (71, .newarray .boolean, 0, 0, 0, 0), (73, .putfield 34, 11, 14, 759, 0), (76, .aload_n 0, 0, 0, 0, 0), (77, .bipush 8, 0, 0, 0, 8), (79, .newarray .int, 0, 0, 0, 0), (81, .putfield 38, 11, 16, 761, 0), (84, .aload_n 0, 0, 0, 0, 0), (85, .bipush 8, 0, 0, 0, 8), (87, .newarray .int, 0, 0, 0, 0), (89, .putfield 41, 11, 17, 762, 0), (92, .aload_n 0, 0, 0, 0, 0), (93, .sipush 130, 0, 0, 0, 130), (96, .newarray .int, 0, 0, 0, 0), (98, .putfield 44, 11, 19, 764, 0), (101, .aload_n 0, 0, 0, 0, 0), (102, .sipush 144, 0, 0, 0, 144), (105, .newarray .int, 0, 0, 0, 0), (107, .putfield 47, 11, 23, 768, 0), (110, .aload_n 0, 0, 0, 0, 0), (111, .sipush 144, 0, 0, 0, 144), (114, .newarray .int, 0, 0, 0, 0), (116, .putfield 50, 11, 24, 769, 0), (119, .aload_n 0, 0, 0, 0, 0), (120, .sipush 9216, 0, 0, 0, 9216), (123, .newarray .int, 0, 0, 0, 0), (125, .putfield 53, 11, 25, 770, 0), (128, .aload_n 0, 0, 0, 0, 0), (129, .bipush 16, 0, 0, 0, 16), (131, .newarray .int, 0, 0, 0, 0), (133, .putfield 56, 11, 26, 771, 0), (136, .aload_n 0, 0, 0, 0, 0), (137, .iconst 0, 0, 0, 0, 0), (138, .putfield 59, 11, 1, 746, 0), (141, .return_, 0, 0, 0, 0)]
set_option maxRecDepth 100000 in
theorem ok_X11_init : k_X11_init.all (gl_ok1 gl_mn m_X11_init) = true := by decide +kernel
def k_X11_in : List (Nat × gl_O) := [(0, .iload_n 0, 0, 0, 0, 0), (1, .iload_n 1, 0, 0, 0, 0), (2, .if_icmp .lt 12, 0, 0, 0, 0), (5, .iload_n 0, 0, 0, 0, 0), (6, .iload_n 2, 0, 0, 0, 0), (7, .if_icmp .gt 7, 0, 0, 0, 0), (10, .iconst 1, 0, 0, 0, 1), (11, .goto 4, 0, 0, 0, 0), (14, .iconst 0, 0, 0, 0, 0), (15, .ireturn, 0, 0, 0, 0)]
set_option maxRecDepth 100000 in
theorem ok_X11_in : k_X11_in.all (gl_ok1 gl_mn m_X11_in) = true := by decide +kernel
def k_X11_isScale : List (Nat × gl_O) := [(0, .iload_n 1, 0, 0, 0, 0), (1, .iconst 0, 0, 0, 0, 0), (2, .bipush 24, 0, 0, 0, 24), (4, .aload_n 0, 0, 0, 0, 0), (5, .getfield 66, 11, 2, 747, 0), (8, .imul, 0, 0, 0, 0), (9, .iconst 1, 0, 0, 0, 1), (10, .isub, 0, 0, 0, 0), (11, .invokestatic 69, 0, 33, 837, 0), (14, .ireturn, 0, 0, 0, 0)]
set_option maxRecDepth 100000 in
theorem ok_X11_isScale : k_X11_isScale.all (gl_ok1 gl_mn m_X11_isScale) = true := by decide +kernel
def k_X11_isNote : List (Nat × gl_O) := [(0, .iload_n 1, 0, 0, 0, 0), (1, .iconst 0, 0, 0, 0, 0), (2, .aload_n 0, 0, 0, 0, 0), (3, .getfield 25, 11, 10, 755, 0), (6, .iconst 0, 0, 0, 0, 0), (7, .iaload, 0, 0, 0, 0), (8, .iconst 1, 0, 0, 0, 1), (9, .isub, 0, 0, 0, 0), (10, .invokestatic 69, 0, 33, 837, 0), (13, .ireturn, 0, 0, 0, 0)]
set_option maxRecDepth 100000 in
theorem ok_X11_isNote : k_X11_isNote.all (gl_ok1 gl_mn m_X11_isNote) = true := by decide +kernel
def k_X11_type : List (Nat × gl_O) := [(0, .aload_n 0, 0, 0, 0, 0), (1, .iconst 0, 0, 0, 0, 0), (2, .putfield 63, 11, 0, 745, 0), (5, .iload_n 1, 0, 0, 0, 0), (6, .iconst 0, 0, 0, 0, 0), (7, .sipush 255, 0, 0, 0, 255), (10, .invokestatic 69, 0, 33, 837, 0), (13, .ifCond .ne 5, 0, 0, 0, 0), (16, .iconst (-1), 0, 0, 0, (-1)), (17, .ireturn, 0, 0, 0, 0), (18, .aload_n 0, 0, 0, 0, 0), (19, .getfield 73, 11, 18, 763, 0), (22, .sipush 130, 0, 0, 0, 130), (25, .if_icmp .ne 6, 0, 0, 0, 0), (28, .bipush (-3), 0, 0, 0, (-3)), (30, .ireturn, 0, 0, 0, 0), (31, .aload_n 0, 0, 0, 0, 0), (32, .getfield 44, 11, 19, 764, 0), (35, .aload_n 0, 0, 0, 0, 0), (36, .getfield 73, 11, 18, 763, 0), (39, .iload_n 1, 0, 0, 0, 0), (40, .iastore, 0, 0, 0, 0), (41, .aload_n 0, 0, 0, 0, 0), (42, .dup, 0, 0, 0, 0), (43, .getfield 73, 11, 18, 763, 0), (46, .iconst 1, 0, 0, 0, 1), (47, .iadd, 0, 0, 0, 0), (48, .putfield 73, 11, 18, 763, 0), (51, .aload_n 0, 0, 0, 0, 0), (52, .getfield 73, 11, 18, 763, 0), (55, .ireturn, 0, 0, 0, 0)]
set_option maxRecDepth 100000 in
theorem ok_X11_type : k_X11_type.all (gl_ok1 gl_mn m_X11_type) = true := by decide +kernel
def k_X11_clear : List (Nat × gl_O) := [(0, .aload_n 0, 0, 0, 0, 0), (1, .iconst 0, 0, 0, 0, 0), (2, .putfield 63, 11, 0, 745, 0), (5, .aload_n 0, 0, 0, 0, 0), (6, .getfield 73, 11, 18, 763, 0), (9, .istore_n 1, 0, 0, 0, 0), (10, .aload_n 0, 0, 0, 0, 0), (11, .iconst 0, 0, 0, 0, 0), (12, .putfield 73, 11, 18, 763, 0), (15, .iload_n 1, 0, 0, 0, 0), (16, .ireturn, 0, 0, 0, 0)]
set_option maxRecDepth 100000 in
theorem ok_X11_clear : k_X11_clear.all (gl_ok1 gl_mn m_X11_clear) = true := by decide +kernel
def k_X11_isFigure : List (Nat × gl_O) := [(0, .iload_n 1, 0, 0, 0, 0), (1, .aload_n 0, 0, 0, 0, 0), (2, .getfield 73, 11, 18, 763, 0), (5, .if_icmp .ge 23, 0, 0, 0, 0), (8, .aload_n 0, 0, 0, 0, 0), (9, .getfield 44, 11, 19, 764, 0), (12, .iload_n 1, 0, 0, 0, 0), (13, .iaload, 0, 0, 0, 0), (14, .bipush 48, 0, 0, 0, 48), (16, .bipush 57, 0, 0, 0, 57), (18, .invokestatic 69, 0, 33, 837, 0), (21, .ifCond .eq 7, 0, 0, 0, 0), (24, .iconst 1, 0, 0, 0, 1), (25, .goto 4, 0, 0, 0, 0), (28, .iconst 0, 0, 0, 0, 0), (29, .ireturn, 0, 0, 0, 0)]
set_option maxRecDepth 100000 in
theorem ok_X11_isFigure : k_X11_isFigure.all (gl_ok1 gl_mn m_X11_isFigure) = true := by decide +kernel
def k_X11_takes : List (Nat × gl_O) := [(0, .aload_n 0, 0, 0, 0, 0), (1, .getfield 76, 11, 20, 765, 0), (4, .aload_n 0, 0, 0, 0, 0), (5, .getfield 73, 11, 18, 763, 0), (8, .if_icmp .ge 30, 0, 0, 0, 0), (11, .aload_n 0, 0, 0, 0, 0), (12, .getfield 44, 11, 19, 764, 0), (15, .aload_n 0, 0, 0, 0, 0), (16, .getfield 76, 11, 20, 765, 0), (19, .iaload, 0, 0, 0, 0), (20, .bipush 32, 0, 0, 0, 32), (22, .if_icmp .ne 16, 0, 0, 0, 0), (25, .aload_n 0, 0, 0, 0, 0), (26, .dup, 0, 0, 0, 0), (27, .getfield 76, 11, 20, 765, 0), (30, .iconst 1, 0, 0, 0, 1), (31, .iadd, 0, 0, 0, 0), (32, .putfield 76, 11, 20, 765, 0), (35, .goto (-35), 0, 0, 0, 0), (38, .aload_n 0, 0, 0, 0, 0), (39, .aload_n 0, 0, 0, 0, 0), (40, .getfield 76, 11, 20, 765, 0), (43, .putfield 79, 11, 21, 766, 0), (46, .aload_n 0, 0, 0, 0, 0), (47, .aload_n 0, 0, 0, 0, 0), (48, .getfield 76, 11, 20, 765, 0), (51, .aload_n 0, 0, 0, 0, 0), (52, .getfield 73, 11, 18, 763, 0), (55, .if_icmp .ge 15, 0, 0, 0, 0), (58, .aload_n 0, 0, 0, 0, 0), (59, .getfield 44, 11, 19, 764, 0), (62, .aload_n 0, 0, 0, 0, 0), (63, .getfield 76, 11, 20, 765, 0), (66, .iaload, 0, 0, 0, 0), (67, .goto 4, 0, 0, 0, 0), (70, .iconst (-1), 0, 0, 0, (-1)), (71, .putfield 82, 11, 22, 767, 0), (74, .aload_n 0, 0, 0, 0, 0), (75, .aload_n 0, 0, 0, 0, 0), (76, .getfield 76, 11, 20, 765, 0), (79, .invokevirtual 85, 0, 38, 851, 0), (82, .ifCond .ne 29, 0, 0, 0, 0), (85, .aload_n 0, 0, 0, 0, 0), (86, .dup, 0, 0, 0, 0), (87, .getfield 76, 11, 20, 765, 0), (90, .aload_n 0, 0, 0, 0, 0), (91, .getfield 76, 11, 20, 765, 0), (94, .aload_n 0, 0, 0, 0, 0), (95, .getfield 73, 11, 18, 763, 0), (98, .if_icmp .ge 7, 0, 0, 0, 0), (101, .iconst 1, 0, 0, 0, 1), (102, .goto 4, 0, 0, 0, 0), (105, .iconst 0, 0, 0, 0, 0), (106, .iadd, 0, 0, 0, 0), (107, .putfield 76, 11, 20, 765, 0), (110, .return_, 0, 0, 0, 0), (111, .aload_n 0, 0, 0, 0, 0), (112, .aload_n 0, 0, 0, 0, 0), (113, .getfield 76, 11, 20, 765, 0), (116, .invokevirtual 85, 0, 38, 851, 0), (119, .ifCond .eq 16, 0, 0, 0, 0), (122, .aload_n 0, 0, 0, 0, 0), (123, .dup, 0, 0, 0, 0), (124, .getfield 76, 11, 20, 765, 0), (127, .iconst 1, 0, 0, 0, 1), (128, .iadd, 0, 0, 0, 0), (129, .putfield 76, 11, 20, 765, 0), (132, .goto (-21), 0, 0, 0, 0), (135, .aload_n 0, 0, 0, 0, 0), (136, .aload_n 0, 0, 0, 0, 0), (137, .getfield 76, 11, 20, 765, 0), (140, .aload_n 0, 0, 0, 0, 0), (141, .getfield 79, 11, 21, 766, 0), (144, .iconst 1, 0, 0, 0, 1), (145, .iadd, 0, 0, 0, 0), (146, .if_icmp .le 9, 0, 0, 0, 0), (149, .sipush 2000, 0, 0, 0, 2000), (152, .goto 19, 0, 0, 0, 0), (155, .sipush 1000, 0, 0, 0, 1000), (158, .aload_n 0, 0, 0, 0, 0), (159, .getfield 44, 11, 19, 764, 0), (162, .aload_n 0, 0, 0, 0, 0), (163, .getfield 79, 11, 21, 766, 0), (166, .iaload, 0, 0, 0, 0), (167, .iadd, 0, 0, 0, 0), (168, .bipush 48, 0, 0, 0, 48), (170, .isub, 0, 0, 0, 0), (171, .putfield 82, 11, 22, 767, 0), (174, .return_, 0, 0, 0, 0)]
set_option maxRecDepth 100000 in
theorem ok_X11_takes : k_X11_takes.all (gl_ok1 gl_mn m_X11_takes) = true := by decide +kernel
def k_X11_isNumber : List (Nat × gl_O) := [(0, .aload_n 0, 0, 0, 0, 0), (1, .getfield 82, 11, 22, 767, 0), (4, .sipush 1000, 0, 0, 0, 1000), (7, .iload_n 1, 0, 0, 0, 0), (8, .iadd, 0, 0, 0, 0), (9, .sipush 1000, 0, 0, 0, 1000), (12, .iload_n 2, 0, 0, 0, 0), (13, .iadd, 0, 0, 0, 0), (14, .invokestatic 69, 0, 33, 837, 0), (17, .ireturn, 0, 0, 0, 0)]
set_option maxRecDepth 100000 in
theorem ok_X11_isNumber : k_X11_isNumber.all (gl_ok1 gl_mn m_X11_isNumber) = true := by decide +kernel
def k_X11_readsCell : List (Nat × gl_O) := [(0, .aload_n 0, 0, 0, 0, 0), (1, .getfield 89, 11, 6, 751, 0), (4, .bipush 6, 0, 0, 0, 6), (6, .if_icmp .ne 5, 0, 0, 0, 0), (9, .iconst 0, 0, 0, 0, 0), (10, .ireturn, 0, 0, 0, 0), (11, .iconst 5, 0, 0, 0, 5), (12, .aload_n 0, 0, 0, 0, 0), (13, .getfield 89, 11, 6, 751, 0), (16, .imul, 0, 0, 0, 0), (17, .istore_n 1, 0, 0, 0, 0), (18, .iconst 0, 0, 0, 0, 0), (19, .istore_n 2, 0, 0, 0, 0), (20, .aload_n 0, 0, 0, 0, 0), (21, .invokevirtual 92, 0, 39, 848, 0), (24, .iload_n 2, 0, 0, 0, 0), (25, .iconst 4, 0, 0, 0, 4), (26, .if_icmp .ge 38, 0, 0, 0, 0), (29, .aload_n 0, 0, 0, 0, 0), (30, .iconst 1, 0, 0, 0, 1), (31, .iconst 4, 0, 0, 0, 4), (32, .invokevirtual 95, 0, 40, 857, 0), (35, .ifCond .eq 29, 0, 0, 0, 0), (38, .iinc 2 1, 0, 0, 0, 1), (41, .aload_n 0, 0, 0, 0, 0), (42, .getfield 19, 11, 8, 753, 0), (45, .iload_n 1, 0, 0, 0, 0), (46, .iload_n 2, 0, 0, 0, 0), (47, .iadd, 0, 0, 0, 0), (48, .aload_n 0, 0, 0, 0, 0), (49, .getfield 82, 11, 22, 767, 0), (52, .sipush 1000, 0, 0, 0, 1000), (55, .isub, 0, 0, 0, 0), (56, .iastore, 0, 0, 0, 0), (57, .aload_n 0, 0, 0, 0, 0), (58, .invokevirtual 92, 0, 39, 848, 0), (61, .goto (-37), 0, 0, 0, 0), (64, .aload_n 0, 0, 0, 0, 0), (65, .getfield 19, 11, 8, 753, 0), (68, .iload_n 1, 0, 0, 0, 0), (69, .iload_n 2, 0, 0, 0, 0), (70, .iastore, 0, 0, 0, 0), (71, .aload_n 0, 0, 0, 0, 0), (72, .dup, 0, 0, 0, 0), (73, .getfield 89, 11, 6, 751, 0), (76, .iload_n 2, 0, 0, 0, 0), (77, .ifCond .le 7, 0, 0, 0, 0), (80, .iconst 1, 0, 0, 0, 1), (81, .goto 4, 0, 0, 0, 0), (84, .iconst 0, 0, 0, 0, 0), (85, .iadd, 0, 0, 0, 0), (86, .putfield 89, 11, 6, 751, 0), (89, .iload_n 2, 0, 0, 0, 0), (90, .ifCond .le 7, 0, 0, 0, 0), (93, .iconst 1, 0, 0, 0, 1), (94, .goto 4, 0, 0, 0, 0), (97, .iconst 0, 0, 0, 0, 0), (98, .ireturn, 0, 0, 0, 0)]
set_option maxRecDepth 100000 in
theorem ok_X11_readsCell : k_X11_readsCell.all (gl_ok1 gl_mn m_X11_readsCell) = true := by decide +kernel
def k_X11_readsMode : List (Nat × gl_O) := [(0, .aload_n 0, 0, 0, 0, 0), (1, .getfield 99, 11, 7, 752, 0), (4, .bipush 6, 0, 0, 0, 6), (6, .if_icmp .ne 5, 0, 0, 0, 0), (9, .iconst 0, 0, 0, 0, 0), (10, .ireturn, 0, 0, 0, 0), (11, .bipush 9, 0, 0, 0, 9), (13, .aload_n 0, 0, 0, 0, 0), (14, .getfield 99, 11, 7, 752, 0), (17, .imul, 0, 0, 0, 0), (18, .istore_n 1, 0, 0, 0, 0), (19, .iconst 0, 0, 0, 0, 0), (20, .istore_n 2, 0, 0, 0, 0), (21, .iconst 0, 0, 0, 0, 0), (22, .istore_n 3, 0, 0, 0, 0), (23, .iconst 1, 0, 0, 0, 1), (24, .istore 4, 0, 0, 0, 0), (26, .aload_n 0, 0, 0, 0, 0), (27, .invokevirtual 92, 0, 39, 848, 0), (30, .iload 4, 0, 0, 0, 0), (32, .ifCond .eq 101, 0, 0, 0, 0), (35, .aload_n 0, 0, 0, 0, 0), (36, .iconst 0, 0, 0, 0, 0), (37, .aload_n 0, 0, 0, 0, 0), (38, .getfield 89, 11, 6, 751, 0), (41, .iconst 1, 0, 0, 0, 1), (42, .isub, 0, 0, 0, 0), (43, .invokevirtual 95, 0, 40, 857, 0), (46, .ifCond .ne 5, 0, 0, 0, 0), (49, .iconst 0, 0, 0, 0, 0), (50, .ireturn, 0, 0, 0, 0), (51, .aload_n 0, 0, 0, 0, 0), (52, .getfield 22, 11, 9, 754, 0), (55, .iload_n 1, 0, 0, 0, 0), (56, .iconst 1, 0, 0, 0, 1), (57, .iadd, 0, 0, 0, 0), (58, .iconst 2, 0, 0, 0, 2), (59, .iload_n 2, 0, 0, 0, 0), (60, .imul, 0, 0, 0, 0), (61, .iadd, 0, 0, 0, 0), (62, .iload_n 3, 0, 0, 0, 0), (63, .iastore, 0, 0, 0, 0), (64, .aload_n 0, 0, 0, 0, 0), (65, .getfield 22, 11, 9, 754, 0), (68, .iload_n 1, 0, 0, 0, 0), (69, .iconst 2, 0, 0, 0, 2), (70, .iadd, 0, 0, 0, 0), (71, .iconst 2, 0, 0, 0, 2), (72, .iload_n 2, 0, 0, 0, 0), (73, .imul, 0, 0, 0, 0), (74, .iadd, 0, 0, 0, 0), (75, .aload_n 0, 0, 0, 0, 0), (76, .getfield 82, 11, 22, 767, 0), (79, .sipush 1000, 0, 0, 0, 1000), (82, .isub, 0, 0, 0, 0), (83, .iastore, 0, 0, 0, 0), (84, .iinc 2 1, 0, 0, 0, 1), (87, .aload_n 0, 0, 0, 0, 0), (88, .invokevirtual 92, 0, 39, 848, 0), (91, .iload_n 2, 0, 0, 0, 0), (92, .iconst 4, 0, 0, 0, 4), (93, .if_icmp .ge 16, 0, 0, 0, 0), (96, .aload_n 0, 0, 0, 0, 0), (97, .iconst 0, 0, 0, 0, 0), (98, .iconst 3, 0, 0, 0, 3), (99, .invokevirtual 95, 0, 40, 857, 0), (102, .ifCond .eq 7, 0, 0, 0, 0), (105, .iconst 1, 0, 0, 0, 1), (106, .goto 4, 0, 0, 0, 0), (109, .iconst 0, 0, 0, 0, 0), (110, .istore 4, 0, 0, 0, 0), (112, .iload 4, 0, 0, 0, 0), (114, .ifCond .eq (-84), 0, 0, 0, 0), (117, .aload_n 0, 0, 0, 0, 0), (118, .getfield 82, 11, 22, 767, 0), (121, .sipush 1000, 0, 0, 0, 1000), (124, .isub, 0, 0, 0, 0), (125, .istore_n 3, 0, 0, 0, 0), (126, .aload_n 0, 0, 0, 0, 0), (127, .invokevirtual 92, 0, 39, 848, 0), (130, .goto (-100), 0, 0, 0, 0), (133, .aload_n 0, 0, 0, 0, 0), (134, .getfield 22, 11, 9, 754, 0), (137, .iload_n 1, 0, 0, 0, 0), (138, .iload_n 2, 0, 0, 0, 0), (139, .iastore, 0, 0, 0, 0), (140, .aload_n 0, 0, 0, 0, 0), (141, .dup, 0, 0, 0, 0), (142, .getfield 99, 11, 7, 752, 0), (145, .iconst 1, 0, 0, 0, 1), (146, .iadd, 0, 0, 0, 0), (147, .putfield 99, 11, 7, 752, 0), (150, .iconst 1, 0, 0, 0, 1), (151, .ireturn, 0, 0, 0, 0)]
set_option maxRecDepth 100000 in
theorem ok_X11_readsMode : k_X11_readsMode.all (gl_ok1 gl_mn m_X11_readsMode) = true := by decide +kernel
end
section
def k_X11_becomes : List (Nat × gl_O) := [(0, .aload_n 0, 0, 0, 0, 0), (1, .aload_n 0, 0, 0, 0, 0), (2, .getfield 89, 11, 6, 751, 0), (5, .putfield 59, 11, 1, 746, 0), (8, .aload_n 0, 0, 0, 0, 0), (9, .aload_n 0, 0, 0, 0, 0), (10, .getfield 99, 11, 7, 752, 0), (13, .putfield 66, 11, 2, 747, 0), (16, .iconst 0, 0, 0, 0, 0), (17, .istore_n 1, 0, 0, 0, 0), (18, .iload_n 1, 0, 0, 0, 0), (19, .bipush 30, 0, 0, 0, 30), (21, .if_icmp .ge 21, 0, 0, 0, 0), (24, .aload_n 0, 0, 0, 0, 0), (25, .getfield 7, 11, 3, 748, 0), (28, .iload_n 1, 0, 0, 0, 0), (29, .aload_n 0, 0, 0, 0, 0), (30, .getfield 19, 11, 8, 753, 0), (33, .iload_n 1, 0, 0, 0, 0), (34, .iaload, 0, 0, 0, 0), (35, .iastore, 0, 0, 0, 0), (36, .iinc 1 1, 0, 0, 0, 1), (39, .goto (-21), 0, 0, 0, 0), (42, .iconst 0, 0, 0, 0, 0), (43, .istore_n 1, 0, 0, 0, 0), (44, .iload_n 1, 0, 0, 0, 0), (45, .bipush 54, 0, 0, 0, 54), (47, .if_icmp .ge 21, 0, 0, 0, 0), (50, .aload_n 0, 0, 0, 0, 0), (51, .getfield 13, 11, 4, 749, 0), (54, .iload_n 1, 0, 0, 0, 0), (55, .aload_n 0, 0, 0, 0, 0), (56, .getfield 22, 11, 9, 754, 0), (59, .iload_n 1, 0, 0, 0, 0), (60, .iaload, 0, 0, 0, 0), (61, .iastore, 0, 0, 0, 0), (62, .iinc 1 1, 0, 0, 0, 1), (65, .goto (-21), 0, 0, 0, 0), (68, .iconst 0, 0, 0, 0, 0), (69, .istore_n 1, 0, 0, 0, 0), (70, .iload_n 1, 0, 0, 0, 0), (71, .aload_n 0, 0, 0, 0, 0), (72, .getfield 66, 11, 2, 747, 0), (75, .if_icmp .ge 83, 0, 0, 0, 0), (78, .iconst 0, 0, 0, 0, 0), (79, .istore_n 2, 0, 0, 0, 0), (80, .iconst 0, 0, 0, 0, 0), (81, .istore_n 3, 0, 0, 0, 0), (82, .iload_n 3, 0, 0, 0, 0), (83, .aload_n 0, 0, 0, 0, 0), (84, .getfield 13, 11, 4, 749, 0), (87, .bipush 9, 0, 0, 0, 9), (89, .iload_n 1, 0, 0, 0, 0), (90, .imul, 0, 0, 0, 0), (91, .iaload, 0, 0, 0, 0), (92, .if_icmp .ge 60, 0, 0, 0, 0), (95, .iload_n 2, 0, 0, 0, 0), (96, .aload_n 0, 0, 0, 0, 0), (97, .getfield 13, 11, 4, 749, 0), (100, .bipush 9, 0, 0, 0, 9), (102, .iload_n 1, 0, 0, 0, 0), (103, .imul, 0, 0, 0, 0), (104, .iconst 1, 0, 0, 0, 1), (105, .iadd, 0, 0, 0, 0), (106, .iconst 2, 0, 0, 0, 2), (107, .iload_n 3, 0, 0, 0, 0), (108, .imul, 0, 0, 0, 0), (109, .iadd, 0, 0, 0, 0), (110, .iaload, 0, 0, 0, 0), (111, .iadd, 0, 0, 0, 0), (112, .istore_n 2, 0, 0, 0, 0), (113, .aload_n 0, 0, 0, 0, 0), (114, .getfield 16, 11, 5, 750, 0), (117, .iconst 4, 0, 0, 0, 4), (118, .iload_n 1, 0, 0, 0, 0), (119, .imul, 0, 0, 0, 0), (120, .iload_n 3, 0, 0, 0, 0), (121, .iadd, 0, 0, 0, 0), (122, .iload_n 2, 0, 0, 0, 0), (123, .iastore, 0, 0, 0, 0), (124, .iload_n 2, 0, 0, 0, 0), (125, .aload_n 0, 0, 0, 0, 0), (126, .aload_n 0, 0, 0, 0, 0), (127, .getfield 13, 11, 4, 749, 0), (130, .bipush 9, 0, 0, 0, 9), (132, .iload_n 1, 0, 0, 0, 0), (133, .imul, 0, 0, 0, 0), (134, .iconst 2, 0, 0, 0, 2), (135, .iadd, 0, 0, 0, 0), (136, .iconst 2, 0, 0, 0, 2), (137, .iload_n 3, 0, 0, 0, 0), (138, .imul, 0, 0, 0, 0), (139, .iadd, 0, 0, 0, 0), (140, .iaload, 0, 0, 0, 0), (141, .invokevirtual 102, 0, 45, 866, 0), (144, .iadd, 0, 0, 0, 0), (145, .istore_n 2, 0, 0, 0, 0), (146, .iinc 3 1, 0, 0, 0, 1), (149, .goto (-67), 0, 0, 0, 0), (152, .iinc 1 1, 0, 0, 0, 1), (155, .goto (-85), 0, 0, 0, 0), (158, .aload_n 0, 0, 0, 0, 0), (159, .getfield 25, 11, 10, 755, 0), (162, .iconst 0, 0, 0, 0, 0), (163, .iconst 0, 0, 0, 0, 0), (164, .iastore, 0, 0, 0, 0), (165, .aload_n 0, 0, 0, 0, 0), (166, .iconst 0, 0, 0, 0, 0), (167, .putfield 106, 11, 12, 757, 0), (170, .aload_n 0, 0, 0, 0, 0), (171, .iconst 0, 0, 0, 0, 0), (172, .putfield 109, 11, 15, 760, 0), (175, .aload_n 0, 0, 0, 0, 0), (176, .getfield 34, 11, 14, 759, 0), (179, .iconst 0, 0, 0, 0, 0), (180, .iconst 0, 0, 0, 0, 0), (181, .bastore, 0, 0, 0, 0), (182, .aload_n 0, 0, 0, 0, 0), (183, .getfield 34, 11, 14, 759, 0), (186, .iconst 1, 0, 0, 0, 1), (187, .iconst 0, 0, 0, 0, 0), (188, .bastore, 0, 0, 0, 0), (189, .return_, 0, 0, 0, 0)]
set_option maxRecDepth 100000 in
theorem ok_X11_becomes : k_X11_becomes.all (gl_ok1 gl_mn m_X11_becomes) = true := by decide +kernel
def k_X11_modes : List (Nat × gl_O) := [(0, .aload_n 0, 0, 0, 0, 0), (1, .iconst 0, 0, 0, 0, 0), (2, .putfield 63, 11, 0, 745, 0), (5, .aload_n 0, 0, 0, 0, 0), (6, .iconst 0, 0, 0, 0, 0), (7, .putfield 89, 11, 6, 751, 0), (10, .aload_n 0, 0, 0, 0, 0), (11, .iconst 0, 0, 0, 0, 0), (12, .putfield 99, 11, 7, 752, 0), (15, .aload_n 0, 0, 0, 0, 0), (16, .iconst 0, 0, 0, 0, 0), (17, .putfield 76, 11, 20, 765, 0), (20, .iconst 0, 0, 0, 0, 0), (21, .istore_n 1, 0, 0, 0, 0), (22, .aload_n 0, 0, 0, 0, 0), (23, .invokevirtual 92, 0, 39, 848, 0), (26, .aload_n 0, 0, 0, 0, 0), (27, .getfield 82, 11, 22, 767, 0), (30, .iconst (-1), 0, 0, 0, (-1)), (31, .if_icmp .eq 72, 0, 0, 0, 0), (34, .aload_n 0, 0, 0, 0, 0), (35, .getfield 82, 11, 22, 767, 0), (38, .bipush 99, 0, 0, 0, 99), (40, .if_icmp .ne 10, 0, 0, 0, 0), (43, .aload_n 0, 0, 0, 0, 0), (44, .invokevirtual 112, 0, 41, 854, 0), (47, .goto 24, 0, 0, 0, 0), (50, .aload_n 0, 0, 0, 0, 0), (51, .getfield 82, 11, 22, 767, 0), (54, .bipush 109, 0, 0, 0, 109), (56, .if_icmp .ne 14, 0, 0, 0, 0), (59, .aload_n 0, 0, 0, 0, 0), (60, .invokevirtual 116, 0, 42, 860, 0), (63, .ifCond .eq 7, 0, 0, 0, 0), (66, .iconst 1, 0, 0, 0, 1), (67, .goto 4, 0, 0, 0, 0), (70, .iconst 0, 0, 0, 0, 0), (71, .istore_n 2, 0, 0, 0, 0), (72, .iload_n 2, 0, 0, 0, 0), (73, .ifCond .eq 12, 0, 0, 0, 0), (76, .aload_n 0, 0, 0, 0, 0), (77, .getfield 82, 11, 22, 767, 0), (80, .bipush 59, 0, 0, 0, 59), (82, .if_icmp .eq 11, 0, 0, 0, 0), (85, .bipush (-10), 0, 0, 0, (-10)), (87, .aload_n 0, 0, 0, 0, 0), (88, .getfield 79, 11, 21, 766, 0), (91, .isub, 0, 0, 0, 0), (92, .ireturn, 0, 0, 0, 0), (93, .iinc 1 1, 0, 0, 0, 1), (96, .aload_n 0, 0, 0, 0, 0), (97, .invokevirtual 92, 0, 39, 848, 0), (100, .goto (-74), 0, 0, 0, 0), (103, .aload_n 0, 0, 0, 0, 0), (104, .invokevirtual 119, 0, 43, 863, 0), (107, .aload_n 0, 0, 0, 0, 0), (108, .iconst 0, 0, 0, 0, 0), (109, .putfield 73, 11, 18, 763, 0), (112, .iload_n 1, 0, 0, 0, 0), (113, .ireturn, 0, 0, 0, 0)]
set_option maxRecDepth 100000 in
theorem ok_X11_modes : k_X11_modes.all (gl_ok1 gl_mn m_X11_modes) = true := by decide +kernel
def k_X11_span : List (Nat × gl_O) := [(0, .iconst 0, 0, 0, 0, 0), (1, .istore_n 2, 0, 0, 0, 0), (2, .iconst 1, 0, 0, 0, 1), (3, .istore_n 3, 0, 0, 0, 0), (4, .iload_n 3, 0, 0, 0, 0), (5, .aload_n 0, 0, 0, 0, 0), (6, .getfield 7, 11, 3, 748, 0), (9, .iconst 5, 0, 0, 0, 5), (10, .iload_n 1, 0, 0, 0, 0), (11, .imul, 0, 0, 0, 0), (12, .iaload, 0, 0, 0, 0), (13, .if_icmp .gt 22, 0, 0, 0, 0), (16, .iload_n 2, 0, 0, 0, 0), (17, .aload_n 0, 0, 0, 0, 0), (18, .getfield 7, 11, 3, 748, 0), (21, .iconst 5, 0, 0, 0, 5), (22, .iload_n 1, 0, 0, 0, 0), (23, .imul, 0, 0, 0, 0), (24, .iload_n 3, 0, 0, 0, 0), (25, .iadd, 0, 0, 0, 0), (26, .iaload, 0, 0, 0, 0), (27, .iadd, 0, 0, 0, 0), (28, .istore_n 2, 0, 0, 0, 0), (29, .iinc 3 1, 0, 0, 0, 1), (32, .goto (-28), 0, 0, 0, 0), (35, .iload_n 2, 0, 0, 0, 0), (36, .ireturn, 0, 0, 0, 0)]
set_option maxRecDepth 100000 in
theorem ok_X11_span : k_X11_span.all (gl_ok1 gl_mn m_X11_span) = true := by decide +kernel
def k_X11_isIn : List (Nat × gl_O) := [(0, .iload_n 2, 0, 0, 0, 0), (1, .istore 4, 0, 0, 0, 0), (3, .iload 4, 0, 0, 0, 0), (5, .iload_n 3, 0, 0, 0, 0), (6, .if_icmp .ne 7, 0, 0, 0, 0), (9, .iconst 1, 0, 0, 0, 1), (10, .goto 4, 0, 0, 0, 0), (13, .iconst 0, 0, 0, 0, 0), (14, .istore 5, 0, 0, 0, 0), (16, .iconst 1, 0, 0, 0, 1), (17, .istore 6, 0, 0, 0, 0), (19, .iload 6, 0, 0, 0, 0), (21, .aload_n 0, 0, 0, 0, 0), (22, .getfield 7, 11, 3, 748, 0), (25, .iconst 5, 0, 0, 0, 5), (26, .iload_n 1, 0, 0, 0, 0), (27, .imul, 0, 0, 0, 0), (28, .iaload, 0, 0, 0, 0), (29, .if_icmp .gt 43, 0, 0, 0, 0), (32, .iload 4, 0, 0, 0, 0), (34, .aload_n 0, 0, 0, 0, 0), (35, .getfield 7, 11, 3, 748, 0), (38, .iconst 5, 0, 0, 0, 5), (39, .iload_n 1, 0, 0, 0, 0), (40, .imul, 0, 0, 0, 0), (41, .iload 6, 0, 0, 0, 0), (43, .iadd, 0, 0, 0, 0), (44, .iaload, 0, 0, 0, 0), (45, .iadd, 0, 0, 0, 0), (46, .istore 4, 0, 0, 0, 0), (48, .iload 5, 0, 0, 0, 0), (50, .ifCond .ne 9, 0, 0, 0, 0), (53, .iload 4, 0, 0, 0, 0), (55, .iload_n 3, 0, 0, 0, 0), (56, .if_icmp .ne 7, 0, 0, 0, 0), (59, .iconst 1, 0, 0, 0, 1), (60, .goto 4, 0, 0, 0, 0), (63, .iconst 0, 0, 0, 0, 0), (64, .istore 5, 0, 0, 0, 0), (66, .iinc 6 1, 0, 0, 0, 1), (69, .goto (-50), 0, 0, 0, 0), (72, .iload 5, 0, 0, 0, 0), (74, .ireturn, 0, 0, 0, 0)]
set_option maxRecDepth 100000 in
theorem ok_X11_isIn : k_X11_isIn.all (gl_ok1 gl_mn m_X11_isIn) = true := by decide +kernel
def k_X11_parts : List (Nat × gl_O) := [(0, .aload_n 0, 0, 0, 0, 0), (1, .getfield 13, 11, 4, 749, 0), (4, .bipush 9, 0, 0, 0, 9), (6, .iload_n 1, 0, 0, 0, 0), (7, .bipush 24, 0, 0, 0, 24), (9, .idiv, 0, 0, 0, 0), (10, .imul, 0, 0, 0, 0), (11, .iaload, 0, 0, 0, 0), (12, .ireturn, 0, 0, 0, 0)]
set_option maxRecDepth 100000 in
theorem ok_X11_parts : k_X11_parts.all (gl_ok1 gl_mn m_X11_parts) = true := by decide +kernel
def k_X11_cellOf : List (Nat × gl_O) := [(0, .aload_n 0, 0, 0, 0, 0), (1, .getfield 13, 11, 4, 749, 0), (4, .bipush 9, 0, 0, 0, 9), (6, .iload_n 1, 0, 0, 0, 0), (7, .bipush 24, 0, 0, 0, 24), (9, .idiv, 0, 0, 0, 0), (10, .imul, 0, 0, 0, 0), (11, .iconst 2, 0, 0, 0, 2), (12, .iadd, 0, 0, 0, 0), (13, .iconst 2, 0, 0, 0, 2), (14, .iload_n 2, 0, 0, 0, 0), (15, .imul, 0, 0, 0, 0), (16, .iadd, 0, 0, 0, 0), (17, .iaload, 0, 0, 0, 0), (18, .ireturn, 0, 0, 0, 0)]
set_option maxRecDepth 100000 in
theorem ok_X11_cellOf : k_X11_cellOf.all (gl_ok1 gl_mn m_X11_cellOf) = true := by decide +kernel
def k_X11_pitchOf : List (Nat × gl_O) := [(0, .iload_n 1, 0, 0, 0, 0), (1, .bipush 24, 0, 0, 0, 24), (3, .irem, 0, 0, 0, 0), (4, .aload_n 0, 0, 0, 0, 0), (5, .getfield 16, 11, 5, 750, 0), (8, .iconst 4, 0, 0, 0, 4), (9, .iload_n 1, 0, 0, 0, 0), (10, .bipush 24, 0, 0, 0, 24), (12, .idiv, 0, 0, 0, 0), (13, .imul, 0, 0, 0, 0), (14, .iload_n 2, 0, 0, 0, 0), (15, .iadd, 0, 0, 0, 0), (16, .iaload, 0, 0, 0, 0), (17, .iadd, 0, 0, 0, 0), (18, .ireturn, 0, 0, 0, 0)]
set_option maxRecDepth 100000 in
theorem ok_X11_pitchOf : k_X11_pitchOf.all (gl_ok1 gl_mn m_X11_pitchOf) = true := by decide +kernel
def k_X11_isInPart : List (Nat × gl_O) := [(0, .aload_n 0, 0, 0, 0, 0), (1, .aload_n 0, 0, 0, 0, 0), (2, .iload_n 1, 0, 0, 0, 0), (3, .iload_n 2, 0, 0, 0, 0), (4, .invokevirtual 122, 0, 48, 883, 0), (7, .aload_n 0, 0, 0, 0, 0), (8, .iload_n 1, 0, 0, 0, 0), (9, .iload_n 2, 0, 0, 0, 0), (10, .invokevirtual 126, 0, 49, 886, 0), (13, .iload_n 3, 0, 0, 0, 0), (14, .invokevirtual 129, 0, 46, 899, 0), (17, .ireturn, 0, 0, 0, 0)]
set_option maxRecDepth 100000 in
theorem ok_X11_isInPart : k_X11_isInPart.all (gl_ok1 gl_mn m_X11_isInPart) = true := by decide +kernel
def k_X11_sameIn : List (Nat × gl_O) := [(0, .iconst 0, 0, 0, 0, 0), (1, .istore 4, 0, 0, 0, 0), (3, .iload 4, 0, 0, 0, 0), (5, .aload_n 0, 0, 0, 0, 0), (6, .iload_n 3, 0, 0, 0, 0), (7, .invokevirtual 132, 0, 47, 880, 0), (10, .if_icmp .ge 44, 0, 0, 0, 0), (13, .aload_n 0, 0, 0, 0, 0), (14, .iload_n 3, 0, 0, 0, 0), (15, .iload 4, 0, 0, 0, 0), (17, .invokevirtual 122, 0, 48, 883, 0), (20, .aload_n 0, 0, 0, 0, 0), (21, .iload_n 1, 0, 0, 0, 0), (22, .iload_n 2, 0, 0, 0, 0), (23, .invokevirtual 122, 0, 48, 883, 0), (26, .if_icmp .ne 22, 0, 0, 0, 0), (29, .aload_n 0, 0, 0, 0, 0), (30, .iload_n 3, 0, 0, 0, 0), (31, .iload 4, 0, 0, 0, 0), (33, .invokevirtual 126, 0, 49, 886, 0), (36, .aload_n 0, 0, 0, 0, 0), (37, .iload_n 1, 0, 0, 0, 0), (38, .iload_n 2, 0, 0, 0, 0), (39, .invokevirtual 126, 0, 49, 886, 0), (42, .if_icmp .ne 6, 0, 0, 0, 0), (45, .iload 4, 0, 0, 0, 0), (47, .ireturn, 0, 0, 0, 0), (48, .iinc 4 1, 0, 0, 0, 1), (51, .goto (-48), 0, 0, 0, 0), (54, .bipush (-9), 0, 0, 0, (-9)), (56, .ireturn, 0, 0, 0, 0)]
set_option maxRecDepth 100000 in
theorem ok_X11_sameIn : k_X11_sameIn.all (gl_ok1 gl_mn m_X11_sameIn) = true := by decide +kernel
def k_X11_share : List (Nat × gl_O) := [(0, .iconst 0, 0, 0, 0, 0), (1, .istore_n 3, 0, 0, 0, 0), (2, .iconst 0, 0, 0, 0, 0), (3, .istore 4, 0, 0, 0, 0), (5, .iload 4, 0, 0, 0, 0), (7, .aload_n 0, 0, 0, 0, 0), (8, .iload_n 1, 0, 0, 0, 0), (9, .invokevirtual 132, 0, 47, 880, 0), (12, .if_icmp .ge 32, 0, 0, 0, 0), (15, .iload_n 3, 0, 0, 0, 0), (16, .ifCond .ne 16, 0, 0, 0, 0), (19, .aload_n 0, 0, 0, 0, 0), (20, .iload_n 1, 0, 0, 0, 0), (21, .iload 4, 0, 0, 0, 0), (23, .iload_n 2, 0, 0, 0, 0), (24, .invokevirtual 135, 0, 51, 906, 0), (27, .bipush (-9), 0, 0, 0, (-9)), (29, .if_icmp .eq 7, 0, 0, 0, 0), (32, .iconst 1, 0, 0, 0, 1), (33, .goto 4, 0, 0, 0, 0), (36, .iconst 0, 0, 0, 0, 0), (37, .istore_n 3, 0, 0, 0, 0), (38, .iinc 4 1, 0, 0, 0, 1), (41, .goto (-36), 0, 0, 0, 0), (44, .iload_n 3, 0, 0, 0, 0), (45, .ireturn, 0, 0, 0, 0)]
set_option maxRecDepth 100000 in
theorem ok_X11_share : k_X11_share.all (gl_ok1 gl_mn m_X11_share) = true := by decide +kernel
def k_X11_cell : List (Nat × gl_O) := [(0, .aload_n 0, 0, 0, 0, 0), (1, .iconst 0, 0, 0, 0, 0), (2, .putfield 63, 11, 0, 745, 0), (5, .iload_n 1, 0, 0, 0, 0), (6, .iconst 0, 0, 0, 0, 0), (7, .aload_n 0, 0, 0, 0, 0), (8, .getfield 59, 11, 1, 746, 0), (11, .iconst 1, 0, 0, 0, 1), (12, .isub, 0, 0, 0, 0), (13, .invokestatic 69, 0, 33, 837, 0), (16, .ifCond .eq 8, 0, 0, 0, 0), (19, .iload_n 2, 0, 0, 0, 0), (20, .iconst (-1), 0, 0, 0, (-1)), (21, .if_icmp .ge 5, 0, 0, 0, 0), (24, .iconst (-1), 0, 0, 0, (-1)), (25, .ireturn, 0, 0, 0, 0), (26, .aload_n 0, 0, 0, 0, 0), (27, .getfield 7, 11, 3, 748, 0), (30, .iconst 5, 0, 0, 0, 5), (31, .iload_n 1, 0, 0, 0, 0), (32, .imul, 0, 0, 0, 0), (33, .iaload, 0, 0, 0, 0), (34, .istore_n 3, 0, 0, 0, 0), (35, .iload_n 2, 0, 0, 0, 0), (36, .ifCond .ge 7, 0, 0, 0, 0), (39, .iload_n 3, 0, 0, 0, 0), (40, .goto 25, 0, 0, 0, 0), (43, .iload_n 2, 0, 0, 0, 0), (44, .iload_n 3, 0, 0, 0, 0), (45, .if_icmp .ge 18, 0, 0, 0, 0), (48, .aload_n 0, 0, 0, 0, 0), (49, .getfield 7, 11, 3, 748, 0), (52, .iconst 5, 0, 0, 0, 5), (53, .iload_n 1, 0, 0, 0, 0), (54, .imul, 0, 0, 0, 0), (55, .iconst 1, 0, 0, 0, 1), (56, .iadd, 0, 0, 0, 0), (57, .iload_n 2, 0, 0, 0, 0), (58, .iadd, 0, 0, 0, 0), (59, .iaload, 0, 0, 0, 0), (60, .goto 5, 0, 0, 0, 0), (63, .bipush (-9), 0, 0, 0, (-9)), (65, .ireturn, 0, 0, 0, 0)]
set_option maxRecDepth 100000 in
theorem ok_X11_cell : k_X11_cell.all (gl_ok1 gl_mn m_X11_cell) = true := by decide +kernel
def k_X11_part : List (Nat × gl_O) := [(0, .aload_n 0, 0, 0, 0, 0), (1, .iconst 0, 0, 0, 0, 0), (2, .putfield 63, 11, 0, 745, 0), (5, .aload_n 0, 0, 0, 0, 0), (6, .iload_n 1, 0, 0, 0, 0), (7, .invokevirtual 139, 0, 34, 877, 0), (10, .ifCond .eq 17, 0, 0, 0, 0), (13, .iload_n 2, 0, 0, 0, 0), (14, .iconst (-1), 0, 0, 0, (-1)), (15, .if_icmp .lt 12, 0, 0, 0, 0), (18, .iload_n 3, 0, 0, 0, 0), (19, .iconst 0, 0, 0, 0, 0), (20, .iconst 1, 0, 0, 0, 1), (21, .invokestatic 69, 0, 33, 837, 0), (24, .ifCond .ne 5, 0, 0, 0, 0), (27, .iconst (-1), 0, 0, 0, (-1)), (28, .ireturn, 0, 0, 0, 0), (29, .iload_n 2, 0, 0, 0, 0), (30, .ifCond .ge 9, 0, 0, 0, 0), (33, .aload_n 0, 0, 0, 0, 0), (34, .iload_n 1, 0, 0, 0, 0), (35, .invokevirtual 132, 0, 47, 880, 0), (38, .ireturn, 0, 0, 0, 0), (39, .iload_n 2, 0, 0, 0, 0), (40, .aload_n 0, 0, 0, 0, 0), (41, .iload_n 1, 0, 0, 0, 0), (42, .invokevirtual 132, 0, 47, 880, 0), (45, .if_icmp .lt 8, 0, 0, 0, 0), (48, .bipush (-9), 0, 0, 0, (-9)), (50, .goto 22, 0, 0, 0, 0), (53, .iload_n 3, 0, 0, 0, 0), (54, .ifCond .ne 12, 0, 0, 0, 0), (57, .aload_n 0, 0, 0, 0, 0), (58, .iload_n 1, 0, 0, 0, 0), (59, .iload_n 2, 0, 0, 0, 0), (60, .invokevirtual 122, 0, 48, 883, 0), (63, .goto 9, 0, 0, 0, 0), (66, .aload_n 0, 0, 0, 0, 0), (67, .iload_n 1, 0, 0, 0, 0), (68, .iload_n 2, 0, 0, 0, 0), (69, .invokevirtual 126, 0, 49, 886, 0), (72, .ireturn, 0, 0, 0, 0)]
set_option maxRecDepth 100000 in
theorem ok_X11_part : k_X11_part.all (gl_ok1 gl_mn m_X11_part) = true := by decide +kernel
def k_X11_manyHave : List (Nat × gl_O) := [(0, .iconst 0, 0, 0, 0, 0), (1, .istore_n 3, 0, 0, 0, 0), (2, .iconst 0, 0, 0, 0, 0), (3, .istore 4, 0, 0, 0, 0), (5, .iload 4, 0, 0, 0, 0), (7, .aload_n 0, 0, 0, 0, 0), (8, .iload_n 1, 0, 0, 0, 0), (9, .invokevirtual 132, 0, 47, 880, 0), (12, .if_icmp .ge 28, 0, 0, 0, 0), (15, .iload_n 3, 0, 0, 0, 0), (16, .aload_n 0, 0, 0, 0, 0), (17, .iload_n 1, 0, 0, 0, 0), (18, .iload 4, 0, 0, 0, 0), (20, .iload_n 2, 0, 0, 0, 0), (21, .invokevirtual 142, 0, 50, 896, 0), (24, .ifCond .eq 7, 0, 0, 0, 0), (27, .iconst 1, 0, 0, 0, 1), (28, .goto 4, 0, 0, 0, 0), (31, .iconst 0, 0, 0, 0, 0), (32, .iadd, 0, 0, 0, 0), (33, .istore_n 3, 0, 0, 0, 0), (34, .iinc 4 1, 0, 0, 0, 1), (37, .goto (-32), 0, 0, 0, 0), (40, .iload_n 3, 0, 0, 0, 0), (41, .ireturn, 0, 0, 0, 0)]
set_option maxRecDepth 100000 in
theorem ok_X11_manyHave : k_X11_manyHave.all (gl_ok1 gl_mn m_X11_manyHave) = true := by decide +kernel
def k_X11_has : List (Nat × gl_O) := [(0, .aload_n 0, 0, 0, 0, 0), (1, .iconst 0, 0, 0, 0, 0), (2, .putfield 63, 11, 0, 745, 0), (5, .aload_n 0, 0, 0, 0, 0), (6, .iload_n 1, 0, 0, 0, 0), (7, .invokevirtual 139, 0, 34, 877, 0), (10, .ifCond .eq 22, 0, 0, 0, 0), (13, .iload_n 2, 0, 0, 0, 0), (14, .iconst 0, 0, 0, 0, 0), (15, .bipush 60, 0, 0, 0, 60), (17, .invokestatic 69, 0, 33, 837, 0), (20, .ifCond .eq 12, 0, 0, 0, 0), (23, .aload_n 0, 0, 0, 0, 0), (24, .iload_n 1, 0, 0, 0, 0), (25, .iload_n 2, 0, 0, 0, 0), (26, .invokevirtual 145, 0, 55, 893, 0), (29, .goto 4, 0, 0, 0, 0), (32, .iconst (-1), 0, 0, 0, (-1)), (33, .ireturn, 0, 0, 0, 0)]
set_option maxRecDepth 100000 in
theorem ok_X11_has : k_X11_has.all (gl_ok1 gl_mn m_X11_has) = true := by decide +kernel
def k_X11_shares : List (Nat × gl_O) := [(0, .aload_n 0, 0, 0, 0, 0), (1, .iconst 0, 0, 0, 0, 0), (2, .putfield 63, 11, 0, 745, 0), (5, .aload_n 0, 0, 0, 0, 0), (6, .iload_n 1, 0, 0, 0, 0), (7, .invokevirtual 139, 0, 34, 877, 0), (10, .ifCond .eq 16, 0, 0, 0, 0), (13, .aload_n 0, 0, 0, 0, 0), (14, .iload_n 2, 0, 0, 0, 0), (15, .invokevirtual 139, 0, 34, 877, 0), (18, .ifCond .eq 8, 0, 0, 0, 0), (21, .iload_n 3, 0, 0, 0, 0), (22, .iconst (-1), 0, 0, 0, (-1)), (23, .if_icmp .ge 5, 0, 0, 0, 0), (26, .iconst (-1), 0, 0, 0, (-1)), (27, .ireturn, 0, 0, 0, 0), (28, .iconst 0, 0, 0, 0, 0), (29, .istore 4, 0, 0, 0, 0), (31, .iconst 0, 0, 0, 0, 0), (32, .istore 5, 0, 0, 0, 0), (34, .iload 5, 0, 0, 0, 0), (36, .aload_n 0, 0, 0, 0, 0), (37, .iload_n 1, 0, 0, 0, 0), (38, .invokevirtual 132, 0, 47, 880, 0), (41, .if_icmp .ge 34, 0, 0, 0, 0), (44, .aload_n 0, 0, 0, 0, 0), (45, .iload_n 1, 0, 0, 0, 0), (46, .iload 5, 0, 0, 0, 0), (48, .iload_n 2, 0, 0, 0, 0), (49, .invokevirtual 135, 0, 51, 906, 0), (52, .bipush (-9), 0, 0, 0, (-9)), (54, .if_icmp .eq 15, 0, 0, 0, 0), (57, .iload 4, 0, 0, 0, 0), (59, .iload_n 3, 0, 0, 0, 0), (60, .if_icmp .ne 6, 0, 0, 0, 0), (63, .iload 5, 0, 0, 0, 0), (65, .ireturn, 0, 0, 0, 0), (66, .iinc 4 1, 0, 0, 0, 1), (69, .iinc 5 1, 0, 0, 0, 1), (72, .goto (-38), 0, 0, 0, 0), (75, .iload_n 3, 0, 0, 0, 0), (76, .ifCond .ge 8, 0, 0, 0, 0), (79, .iload 4, 0, 0, 0, 0), (81, .goto 5, 0, 0, 0, 0), (84, .bipush (-9), 0, 0, 0, (-9)), (86, .ireturn, 0, 0, 0, 0)]
set_option maxRecDepth 100000 in
theorem ok_X11_shares : k_X11_shares.all (gl_ok1 gl_mn m_X11_shares) = true := by decide +kernel
def k_X11_laysFar : List (Nat × gl_O) := [(0, .iconst 0, 0, 0, 0, 0), (1, .istore_n 2, 0, 0, 0, 0), (2, .iload_n 2, 0, 0, 0, 0), (3, .bipush 24, 0, 0, 0, 24), (5, .aload_n 0, 0, 0, 0, 0), (6, .getfield 66, 11, 2, 747, 0), (9, .imul, 0, 0, 0, 0), (10, .if_icmp .ge 16, 0, 0, 0, 0), (13, .aload_n 0, 0, 0, 0, 0), (14, .getfield 47, 11, 23, 768, 0), (17, .iload_n 2, 0, 0, 0, 0), (18, .iconst 0, 0, 0, 0, 0), (19, .iastore, 0, 0, 0, 0), (20, .iinc 2 1, 0, 0, 0, 1), (23, .goto (-21), 0, 0, 0, 0), (26, .aload_n 0, 0, 0, 0, 0), (27, .getfield 47, 11, 23, 768, 0), (30, .iload_n 1, 0, 0, 0, 0), (31, .iconst 1, 0, 0, 0, 1), (32, .iastore, 0, 0, 0, 0), (33, .aload_n 0, 0, 0, 0, 0), (34, .getfield 50, 11, 24, 769, 0), (37, .iconst 0, 0, 0, 0, 0), (38, .iload_n 1, 0, 0, 0, 0), (39, .iastore, 0, 0, 0, 0), (40, .iconst 1, 0, 0, 0, 1), (41, .istore_n 2, 0, 0, 0, 0), (42, .iconst 0, 0, 0, 0, 0), (43, .istore_n 3, 0, 0, 0, 0), (44, .iload_n 3, 0, 0, 0, 0), (45, .iload_n 2, 0, 0, 0, 0), (46, .if_icmp .ge 86, 0, 0, 0, 0), (49, .iconst 0, 0, 0, 0, 0), (50, .istore 4, 0, 0, 0, 0), (52, .iload 4, 0, 0, 0, 0), (54, .bipush 24, 0, 0, 0, 24), (56, .aload_n 0, 0, 0, 0, 0), (57, .getfield 66, 11, 2, 747, 0), (60, .imul, 0, 0, 0, 0), (61, .if_icmp .ge 65, 0, 0, 0, 0), (64, .aload_n 0, 0, 0, 0, 0), (65, .getfield 47, 11, 23, 768, 0), (68, .iload 4, 0, 0, 0, 0), (70, .iaload, 0, 0, 0, 0), (71, .ifCond .ne 49, 0, 0, 0, 0), (74, .aload_n 0, 0, 0, 0, 0), (75, .aload_n 0, 0, 0, 0, 0), (76, .getfield 50, 11, 24, 769, 0), (79, .iload_n 3, 0, 0, 0, 0), (80, .iaload, 0, 0, 0, 0), (81, .iload 4, 0, 0, 0, 0), (83, .invokevirtual 148, 0, 52, 916, 0), (86, .ifCond .eq 34, 0, 0, 0, 0), (89, .aload_n 0, 0, 0, 0, 0), (90, .getfield 47, 11, 23, 768, 0), (93, .iload 4, 0, 0, 0, 0), (95, .aload_n 0, 0, 0, 0, 0), (96, .getfield 47, 11, 23, 768, 0), (99, .aload_n 0, 0, 0, 0, 0), (100, .getfield 50, 11, 24, 769, 0), (103, .iload_n 3, 0, 0, 0, 0), (104, .iaload, 0, 0, 0, 0), (105, .iaload, 0, 0, 0, 0), (106, .iconst 1, 0, 0, 0, 1), (107, .iadd, 0, 0, 0, 0), (108, .iastore, 0, 0, 0, 0), (109, .aload_n 0, 0, 0, 0, 0), (110, .getfield 50, 11, 24, 769, 0), (113, .iload_n 2, 0, 0, 0, 0), (114, .iload 4, 0, 0, 0, 0), (116, .iastore, 0, 0, 0, 0), (117, .iinc 2 1, 0, 0, 0, 1), (120, .iinc 4 1, 0, 0, 0, 1), (123, .goto (-71), 0, 0, 0, 0), (126, .iinc 3 1, 0, 0, 0, 1), (129, .goto (-85), 0, 0, 0, 0), (132, .return_, 0, 0, 0, 0)]
set_option maxRecDepth 100000 in
theorem ok_X11_laysFar : k_X11_laysFar.all (gl_ok1 gl_mn m_X11_laysFar) = true := by decide +kernel
def k_X11_way : List (Nat × gl_O) := [(0, .aload_n 0, 0, 0, 0, 0), (1, .iconst 0, 0, 0, 0, 0), (2, .putfield 63, 11, 0, 745, 0), (5, .aload_n 0, 0, 0, 0, 0), (6, .iload_n 1, 0, 0, 0, 0), (7, .invokevirtual 139, 0, 34, 877, 0), (10, .ifCond .eq 16, 0, 0, 0, 0), (13, .aload_n 0, 0, 0, 0, 0), (14, .iload_n 2, 0, 0, 0, 0), (15, .invokevirtual 139, 0, 34, 877, 0), (18, .ifCond .eq 8, 0, 0, 0, 0), (21, .iload_n 3, 0, 0, 0, 0), (22, .iconst (-1), 0, 0, 0, (-1)), (23, .if_icmp .ge 5, 0, 0, 0, 0), (26, .iconst (-1), 0, 0, 0, (-1)), (27, .ireturn, 0, 0, 0, 0), (28, .aload_n 0, 0, 0, 0, 0), (29, .iload_n 2, 0, 0, 0, 0), (30, .invokevirtual 151, 0, 58, 913, 0), (33, .aload_n 0, 0, 0, 0, 0), (34, .getfield 47, 11, 23, 768, 0), (37, .iload_n 1, 0, 0, 0, 0), (38, .iaload, 0, 0, 0, 0), (39, .ifCond .eq 13, 0, 0, 0, 0), (42, .iload_n 3, 0, 0, 0, 0), (43, .aload_n 0, 0, 0, 0, 0), (44, .getfield 47, 11, 23, 768, 0), (47, .iload_n 1, 0, 0, 0, 0), (48, .iaload, 0, 0, 0, 0), (49, .if_icmp .lt 6, 0, 0, 0, 0), (52, .bipush (-9), 0, 0, 0, (-9)), (54, .ireturn, 0, 0, 0, 0), (55, .iload_n 3, 0, 0, 0, 0), (56, .ifCond .ge 10, 0, 0, 0, 0), (59, .aload_n 0, 0, 0, 0, 0), (60, .getfield 47, 11, 23, 768, 0), (63, .iload_n 1, 0, 0, 0, 0), (64, .iaload, 0, 0, 0, 0), (65, .ireturn, 0, 0, 0, 0), (66, .iload_n 1, 0, 0, 0, 0), (67, .istore 4, 0, 0, 0, 0), (69, .iconst 0, 0, 0, 0, 0), (70, .istore 5, 0, 0, 0, 0), (72, .iload 5, 0, 0, 0, 0), (74, .iload_n 3, 0, 0, 0, 0), (75, .if_icmp .ge 52, 0, 0, 0, 0), (78, .iconst 0, 0, 0, 0, 0), (79, .istore 6, 0, 0, 0, 0), (81, .aload_n 0, 0, 0, 0, 0), (82, .getfield 47, 11, 23, 768, 0), (85, .iload 6, 0, 0, 0, 0), (87, .iaload, 0, 0, 0, 0), (88, .aload_n 0, 0, 0, 0, 0), (89, .getfield 47, 11, 23, 768, 0), (92, .iload 4, 0, 0, 0, 0), (94, .iaload, 0, 0, 0, 0), (95, .iconst 1, 0, 0, 0, 1), (96, .isub, 0, 0, 0, 0), (97, .if_icmp .ne 14, 0, 0, 0, 0), (100, .aload_n 0, 0, 0, 0, 0), (101, .iload 4, 0, 0, 0, 0), (103, .iload 6, 0, 0, 0, 0), (105, .invokevirtual 148, 0, 52, 916, 0), (108, .ifCond .ne 9, 0, 0, 0, 0), (111, .iinc 6 1, 0, 0, 0, 1), (114, .goto (-33), 0, 0, 0, 0), (117, .iload 6, 0, 0, 0, 0), (119, .istore 4, 0, 0, 0, 0), (121, .iinc 5 1, 0, 0, 0, 1), (124, .goto (-52), 0, 0, 0, 0), (127, .iload 4, 0, 0, 0, 0), (129, .ireturn, 0, 0, 0, 0)]
set_option maxRecDepth 100000 in
theorem ok_X11_way : k_X11_way.all (gl_ok1 gl_mn m_X11_way) = true := by decide +kernel
def k_X11_farthest : List (Nat × gl_O) := [(0, .aload_n 0, 0, 0, 0, 0), (1, .iconst 0, 0, 0, 0, 0), (2, .putfield 63, 11, 0, 745, 0), (5, .aload_n 0, 0, 0, 0, 0), (6, .iload_n 1, 0, 0, 0, 0), (7, .invokevirtual 139, 0, 34, 877, 0), (10, .ifCond .eq 12, 0, 0, 0, 0), (13, .iload_n 2, 0, 0, 0, 0), (14, .iconst 0, 0, 0, 0, 0), (15, .iconst 1, 0, 0, 0, 1), (16, .invokestatic 69, 0, 33, 837, 0), (19, .ifCond .ne 5, 0, 0, 0, 0), (22, .iconst (-1), 0, 0, 0, (-1)), (23, .ireturn, 0, 0, 0, 0), (24, .aload_n 0, 0, 0, 0, 0), (25, .iload_n 1, 0, 0, 0, 0), (26, .invokevirtual 151, 0, 58, 913, 0), (29, .iload_n 1, 0, 0, 0, 0), (30, .istore_n 3, 0, 0, 0, 0), (31, .bipush 24, 0, 0, 0, 24), (33, .aload_n 0, 0, 0, 0, 0), (34, .getfield 66, 11, 2, 747, 0), (37, .imul, 0, 0, 0, 0), (38, .iconst 1, 0, 0, 0, 1), (39, .isub, 0, 0, 0, 0), (40, .istore 4, 0, 0, 0, 0), (42, .iload 4, 0, 0, 0, 0), (44, .ifCond .lt 32, 0, 0, 0, 0), (47, .aload_n 0, 0, 0, 0, 0), (48, .getfield 47, 11, 23, 768, 0), (51, .iload 4, 0, 0, 0, 0), (53, .iaload, 0, 0, 0, 0), (54, .aload_n 0, 0, 0, 0, 0), (55, .getfield 47, 11, 23, 768, 0), (58, .iload_n 3, 0, 0, 0, 0), (59, .iaload, 0, 0, 0, 0), (60, .if_icmp .lt 8, 0, 0, 0, 0), (63, .iload 4, 0, 0, 0, 0), (65, .goto 4, 0, 0, 0, 0), (68, .iload_n 3, 0, 0, 0, 0), (69, .istore_n 3, 0, 0, 0, 0), (70, .iinc 4 (-1), 0, 0, 0, (-1)), (73, .goto (-31), 0, 0, 0, 0), (76, .iload_n 2, 0, 0, 0, 0), (77, .ifCond .ne 12, 0, 0, 0, 0), (80, .aload_n 0, 0, 0, 0, 0), (81, .getfield 47, 11, 23, 768, 0), (84, .iload_n 3, 0, 0, 0, 0), (85, .iaload, 0, 0, 0, 0), (86, .goto 4, 0, 0, 0, 0), (89, .iload_n 3, 0, 0, 0, 0), (90, .ireturn, 0, 0, 0, 0)]
set_option maxRecDepth 100000 in
theorem ok_X11_farthest : k_X11_farthest.all (gl_ok1 gl_mn m_X11_farthest) = true := by decide +kernel
def k_X11_state : List (Nat × gl_O) := [(0, .sipush 576, 0, 0, 0, 576), (3, .iload_n 0, 0, 0, 0, 0), (4, .imul, 0, 0, 0, 0), (5, .iconst 4, 0, 0, 0, 4), (6, .iload_n 1, 0, 0, 0, 0), (7, .imul, 0, 0, 0, 0), (8, .iadd, 0, 0, 0, 0), (9, .iload_n 2, 0, 0, 0, 0), (10, .iadd, 0, 0, 0, 0), (11, .ireturn, 0, 0, 0, 0)]
set_option maxRecDepth 100000 in
theorem ok_X11_state : k_X11_state.all (gl_ok1 gl_mn m_X11_state) = true := by decide +kernel
def k_X11_step : List (Nat × gl_O) := [(0, .aload_n 0, 0, 0, 0, 0), (1, .iload_n 3, 0, 0, 0, 0), (2, .iload 4, 0, 0, 0, 0), (4, .iload_n 1, 0, 0, 0, 0), (5, .invokevirtual 135, 0, 51, 906, 0), (8, .istore 5, 0, 0, 0, 0), (10, .iload 5, 0, 0, 0, 0), (12, .bipush (-9), 0, 0, 0, (-9)), (14, .if_icmp .ne 8, 0, 0, 0, 0), (17, .ldc 155, 0, 0, 930, 100000), (19, .goto 26, 0, 0, 0, 0), (22, .iload 5, 0, 0, 0, 0), (24, .iload_n 2, 0, 0, 0, 0), (25, .if_icmp .ne 7, 0, 0, 0, 0), (28, .iconst 0, 0, 0, 0, 0), (29, .goto 4, 0, 0, 0, 0), (32, .iconst 1, 0, 0, 0, 1), (33, .iload_n 1, 0, 0, 0, 0), (34, .iload_n 3, 0, 0, 0, 0), (35, .if_icmp .ne 7, 0, 0, 0, 0), (38, .iconst 0, 0, 0, 0, 0), (39, .goto 5, 0, 0, 0, 0), (42, .bipush 10, 0, 0, 0, 10), (44, .iadd, 0, 0, 0, 0), (45, .ireturn, 0, 0, 0, 0)]
set_option maxRecDepth 100000 in
theorem ok_X11_step : k_X11_step.all (gl_ok1 gl_mn m_X11_step) = true := by decide +kernel
def k_X11_leastFrom : List (Nat × gl_O) := [(0, .ldc 155, 0, 0, 930, 100000), (2, .istore 4, 0, 0, 0, 0), (4, .iconst 0, 0, 0, 0, 0), (5, .istore 5, 0, 0, 0, 0), (7, .iload 5, 0, 0, 0, 0), (9, .aload_n 0, 0, 0, 0, 0), (10, .iload_n 2, 0, 0, 0, 0), (11, .invokevirtual 132, 0, 47, 880, 0), (14, .if_icmp .ge 218, 0, 0, 0, 0), (17, .aload_n 0, 0, 0, 0, 0), (18, .iload_n 2, 0, 0, 0, 0), (19, .iload 5, 0, 0, 0, 0), (21, .invokevirtual 122, 0, 48, 883, 0), (24, .istore 6, 0, 0, 0, 0), (26, .aload_n 0, 0, 0, 0, 0), (27, .iload_n 2, 0, 0, 0, 0), (28, .iload 5, 0, 0, 0, 0), (30, .invokevirtual 126, 0, 49, 886, 0), (33, .istore 7, 0, 0, 0, 0), (35, .aload_n 0, 0, 0, 0, 0), (36, .iload 6, 0, 0, 0, 0), (38, .iload 7, 0, 0, 0, 0), (40, .aload_n 0, 0, 0, 0, 0), (41, .getfield 25, 11, 10, 755, 0), (44, .iconst 2, 0, 0, 0, 2), (45, .iload_n 1, 0, 0, 0, 0), (46, .iadd, 0, 0, 0, 0), (47, .iaload, 0, 0, 0, 0), (48, .invokevirtual 129, 0, 46, 899, 0), (51, .ifCond .eq 175, 0, 0, 0, 0), (54, .iconst 0, 0, 0, 0, 0), (55, .istore 8, 0, 0, 0, 0), (57, .iload 8, 0, 0, 0, 0), (59, .iconst 4, 0, 0, 0, 4), (60, .aload_n 0, 0, 0, 0, 0), (61, .getfield 66, 11, 2, 747, 0), (64, .imul, 0, 0, 0, 0), (65, .if_icmp .ge 161, 0, 0, 0, 0), (68, .iload 7, 0, 0, 0, 0), (70, .aload_n 0, 0, 0, 0, 0), (71, .getfield 16, 11, 5, 750, 0), (74, .iload 8, 0, 0, 0, 0), (76, .iaload, 0, 0, 0, 0), (77, .isub, 0, 0, 0, 0), (78, .istore 9, 0, 0, 0, 0), (80, .iload 8, 0, 0, 0, 0), (82, .iconst 4, 0, 0, 0, 4), (83, .irem, 0, 0, 0, 0), (84, .aload_n 0, 0, 0, 0, 0), (85, .getfield 13, 11, 4, 749, 0), (88, .bipush 9, 0, 0, 0, 9), (90, .iload 8, 0, 0, 0, 0), (92, .iconst 4, 0, 0, 0, 4), (93, .idiv, 0, 0, 0, 0), (94, .imul, 0, 0, 0, 0), (95, .iaload, 0, 0, 0, 0), (96, .if_icmp .ge 44, 0, 0, 0, 0), (99, .aload_n 0, 0, 0, 0, 0), (100, .getfield 13, 11, 4, 749, 0), (103, .bipush 9, 0, 0, 0, 9), (105, .iload 8, 0, 0, 0, 0), (107, .iconst 4, 0, 0, 0, 4), (108, .idiv, 0, 0, 0, 0), (109, .imul, 0, 0, 0, 0), (110, .iconst 2, 0, 0, 0, 2), (111, .iadd, 0, 0, 0, 0), (112, .iconst 2, 0, 0, 0, 2), (113, .iload 8, 0, 0, 0, 0), (115, .iconst 4, 0, 0, 0, 4), (116, .irem, 0, 0, 0, 0), (117, .imul, 0, 0, 0, 0), (118, .iadd, 0, 0, 0, 0), (119, .iaload, 0, 0, 0, 0), (120, .iload 6, 0, 0, 0, 0), (122, .if_icmp .ne 18, 0, 0, 0, 0), (125, .iload 9, 0, 0, 0, 0), (127, .iconst 0, 0, 0, 0, 0), (128, .bipush 23, 0, 0, 0, 23), (130, .invokestatic 69, 0, 33, 837, 0), (133, .ifCond .eq 7, 0, 0, 0, 0), (136, .iconst 1, 0, 0, 0, 1), (137, .goto 4, 0, 0, 0, 0), (140, .iconst 0, 0, 0, 0, 0), (141, .istore 10, 0, 0, 0, 0), (143, .iload 10, 0, 0, 0, 0), (145, .ifCond .eq 75, 0, 0, 0, 0), (148, .bipush 24, 0, 0, 0, 24), (150, .iload 8, 0, 0, 0, 0), (152, .iconst 4, 0, 0, 0, 4), (153, .idiv, 0, 0, 0, 0), (154, .imul, 0, 0, 0, 0), (155, .iload 9, 0, 0, 0, 0), (157, .iadd, 0, 0, 0, 0), (158, .istore 11, 0, 0, 0, 0), (160, .iload 5, 0, 0, 0, 0), (162, .iload_n 3, 0, 0, 0, 0), (163, .if_icmp .ne 7, 0, 0, 0, 0), (166, .iconst 0, 0, 0, 0, 0), (167, .goto 4, 0, 0, 0, 0), (170, .iconst 1, 0, 0, 0, 1), (171, .iload 11, 0, 0, 0, 0), (173, .iload_n 2, 0, 0, 0, 0), (174, .if_icmp .ne 7, 0, 0, 0, 0), (177, .iconst 0, 0, 0, 0, 0), (178, .goto 5, 0, 0, 0, 0), (181, .bipush 10, 0, 0, 0, 10), (183, .iadd, 0, 0, 0, 0), (184, .aload_n 0, 0, 0, 0, 0), (185, .getfield 53, 11, 25, 770, 0), (188, .iload_n 1, 0, 0, 0, 0), (189, .iconst 1, 0, 0, 0, 1), (190, .iadd, 0, 0, 0, 0), (191, .iload 11, 0, 0, 0, 0), (193, .iload 8, 0, 0, 0, 0), (195, .iconst 4, 0, 0, 0, 4), (196, .irem, 0, 0, 0, 0), (197, .invokestatic 156, 0, 61, 934, 0), (200, .iaload, 0, 0, 0, 0), (201, .iadd, 0, 0, 0, 0), (202, .istore 12, 0, 0, 0, 0), (204, .iload 12, 0, 0, 0, 0), (206, .iload 4, 0, 0, 0, 0), (208, .if_icmp .ge 8, 0, 0, 0, 0), (211, .iload 12, 0, 0, 0, 0), (213, .goto 5, 0, 0, 0, 0), (216, .iload 4, 0, 0, 0, 0), (218, .istore 4, 0, 0, 0, 0), (220, .iinc 8 1, 0, 0, 0, 1), (223, .goto (-166), 0, 0, 0, 0), (226, .iinc 5 1, 0, 0, 0, 1), (229, .goto (-222), 0, 0, 0, 0), (232, .iload 4, 0, 0, 0, 0), (234, .ireturn, 0, 0, 0, 0)]
set_option maxRecDepth 100000 in
theorem ok_X11_leastFrom : k_X11_leastFrom.all (gl_ok1 gl_mn m_X11_leastFrom) = true := by decide +kernel
def k_X11_laysCosts : List (Nat × gl_O) := [(0, .aload_n 0, 0, 0, 0, 0), (1, .getfield 25, 11, 10, 755, 0), (4, .iconst 0, 0, 0, 0, 0), (5, .iaload, 0, 0, 0, 0), (6, .ifCond .ne 7, 0, 0, 0, 0), (9, .iconst 0, 0, 0, 0, 0), (10, .goto 5, 0, 0, 0, 0), (13, .ldc 155, 0, 0, 930, 100000), (15, .istore_n 1, 0, 0, 0, 0), (16, .aload_n 0, 0, 0, 0, 0), (17, .getfield 25, 11, 10, 755, 0), (20, .iconst 0, 0, 0, 0, 0), (21, .iaload, 0, 0, 0, 0), (22, .iconst 1, 0, 0, 0, 1), (23, .isub, 0, 0, 0, 0), (24, .istore_n 2, 0, 0, 0, 0), (25, .iload_n 2, 0, 0, 0, 0), (26, .ifCond .lt 131, 0, 0, 0, 0), (29, .iconst 0, 0, 0, 0, 0), (30, .istore_n 3, 0, 0, 0, 0), (31, .iload_n 3, 0, 0, 0, 0), (32, .bipush 24, 0, 0, 0, 24), (34, .aload_n 0, 0, 0, 0, 0), (35, .getfield 66, 11, 2, 747, 0), (38, .imul, 0, 0, 0, 0), (39, .if_icmp .ge 112, 0, 0, 0, 0), (42, .iconst 0, 0, 0, 0, 0), (43, .istore 4, 0, 0, 0, 0), (45, .iload 4, 0, 0, 0, 0), (47, .aload_n 0, 0, 0, 0, 0), (48, .iload_n 3, 0, 0, 0, 0), (49, .invokevirtual 132, 0, 47, 880, 0), (52, .if_icmp .ge 93, 0, 0, 0, 0), (55, .aload_n 0, 0, 0, 0, 0), (56, .iload_n 3, 0, 0, 0, 0), (57, .iload 4, 0, 0, 0, 0), (59, .aload_n 0, 0, 0, 0, 0), (60, .getfield 25, 11, 10, 755, 0), (63, .iconst 1, 0, 0, 0, 1), (64, .iload_n 2, 0, 0, 0, 0), (65, .iadd, 0, 0, 0, 0), (66, .iaload, 0, 0, 0, 0), (67, .invokevirtual 142, 0, 50, 896, 0), (70, .istore 5, 0, 0, 0, 0), (72, .iload 5, 0, 0, 0, 0), (74, .ifCond .ne 8, 0, 0, 0, 0), (77, .ldc 155, 0, 0, 930, 100000), (79, .goto 27, 0, 0, 0, 0), (82, .iload_n 2, 0, 0, 0, 0), (83, .aload_n 0, 0, 0, 0, 0), (84, .getfield 25, 11, 10, 755, 0), (87, .iconst 0, 0, 0, 0, 0), (88, .iaload, 0, 0, 0, 0), (89, .iconst 1, 0, 0, 0, 1), (90, .isub, 0, 0, 0, 0), (91, .if_icmp .ne 7, 0, 0, 0, 0), (94, .iconst 0, 0, 0, 0, 0), (95, .goto 11, 0, 0, 0, 0), (98, .aload_n 0, 0, 0, 0, 0), (99, .iload_n 2, 0, 0, 0, 0), (100, .iload_n 3, 0, 0, 0, 0), (101, .iload 4, 0, 0, 0, 0), (103, .invokevirtual 159, 0, 63, 931, 0), (106, .istore 6, 0, 0, 0, 0), (108, .aload_n 0, 0, 0, 0, 0), (109, .getfield 53, 11, 25, 770, 0), (112, .iload_n 2, 0, 0, 0, 0), (113, .iload_n 3, 0, 0, 0, 0), (114, .iload 4, 0, 0, 0, 0), (116, .invokestatic 156, 0, 61, 934, 0), (119, .iload 6, 0, 0, 0, 0), (121, .iastore, 0, 0, 0, 0), (122, .iload_n 2, 0, 0, 0, 0), (123, .ifCond .ne 14, 0, 0, 0, 0), (126, .iload 6, 0, 0, 0, 0), (128, .iload_n 1, 0, 0, 0, 0), (129, .if_icmp .ge 8, 0, 0, 0, 0), (132, .iload 6, 0, 0, 0, 0), (134, .goto 4, 0, 0, 0, 0), (137, .iload_n 1, 0, 0, 0, 0), (138, .istore_n 1, 0, 0, 0, 0), (139, .iinc 4 1, 0, 0, 0, 1), (142, .goto (-97), 0, 0, 0, 0), (145, .iinc 3 1, 0, 0, 0, 1), (148, .goto (-117), 0, 0, 0, 0), (151, .iinc 2 (-1), 0, 0, 0, (-1)), (154, .goto (-129), 0, 0, 0, 0), (157, .iload_n 1, 0, 0, 0, 0), (158, .ireturn, 0, 0, 0, 0)]
set_option maxRecDepth 100000 in
theorem ok_X11_laysCosts : k_X11_laysCosts.all (gl_ok1 gl_mn m_X11_laysCosts) = true := by decide +kernel
def k_X11_laysParse : List (Nat × gl_O) := [(0, .aload_n 0, 0, 0, 0, 0), (1, .iconst 0, 0, 0, 0, 0), (2, .putfield 162, 11, 27, 772, 0), (5, .aload_n 0, 0, 0, 0, 0), (6, .iconst 0, 0, 0, 0, 0), (7, .putfield 165, 11, 28, 773, 0), (10, .iconst 0, 0, 0, 0, 0), (11, .istore_n 2, 0, 0, 0, 0), (12, .iload_n 2, 0, 0, 0, 0), (13, .aload_n 0, 0, 0, 0, 0), (14, .getfield 25, 11, 10, 755, 0), (17, .iconst 0, 0, 0, 0, 0), (18, .iaload, 0, 0, 0, 0), (19, .if_icmp .ge 212, 0, 0, 0, 0), (22, .bipush (-9), 0, 0, 0, (-9)), (24, .istore_n 3, 0, 0, 0, 0), (25, .iconst 0, 0, 0, 0, 0), (26, .istore 4, 0, 0, 0, 0), (28, .iconst 0, 0, 0, 0, 0), (29, .istore 5, 0, 0, 0, 0), (31, .iload 5, 0, 0, 0, 0), (33, .bipush 96, 0, 0, 0, 96), (35, .aload_n 0, 0, 0, 0, 0), (36, .getfield 66, 11, 2, 747, 0), (39, .imul, 0, 0, 0, 0), (40, .if_icmp .ge 150, 0, 0, 0, 0), (43, .iload_n 3, 0, 0, 0, 0), (44, .bipush (-9), 0, 0, 0, (-9)), (46, .if_icmp .ne 144, 0, 0, 0, 0), (49, .iload 5, 0, 0, 0, 0), (51, .iconst 4, 0, 0, 0, 4), (52, .irem, 0, 0, 0, 0), (53, .aload_n 0, 0, 0, 0, 0), (54, .iload 5, 0, 0, 0, 0), (56, .iconst 4, 0, 0, 0, 4), (57, .idiv, 0, 0, 0, 0), (58, .invokevirtual 132, 0, 47, 880, 0), (61, .if_icmp .ge 123, 0, 0, 0, 0), (64, .aload_n 0, 0, 0, 0, 0), (65, .getfield 53, 11, 25, 770, 0), (68, .sipush 576, 0, 0, 0, 576), (71, .iload_n 2, 0, 0, 0, 0), (72, .imul, 0, 0, 0, 0), (73, .iload 5, 0, 0, 0, 0), (75, .iadd, 0, 0, 0, 0), (76, .iaload, 0, 0, 0, 0), (77, .ldc 155, 0, 0, 930, 100000), (79, .if_icmp .ge 105, 0, 0, 0, 0), (82, .iload_n 2, 0, 0, 0, 0), (83, .ifCond .ne 7, 0, 0, 0, 0), (86, .iconst 0, 0, 0, 0, 0), (87, .goto 35, 0, 0, 0, 0), (90, .aload_n 0, 0, 0, 0, 0), (91, .aload_n 0, 0, 0, 0, 0), (92, .getfield 56, 11, 26, 771, 0), (95, .iload_n 2, 0, 0, 0, 0), (96, .iconst 1, 0, 0, 0, 1), (97, .isub, 0, 0, 0, 0), (98, .iaload, 0, 0, 0, 0), (99, .iconst 4, 0, 0, 0, 4), (100, .idiv, 0, 0, 0, 0), (101, .aload_n 0, 0, 0, 0, 0), (102, .getfield 56, 11, 26, 771, 0), (105, .iload_n 2, 0, 0, 0, 0), (106, .iconst 1, 0, 0, 0, 1), (107, .isub, 0, 0, 0, 0), (108, .iaload, 0, 0, 0, 0), (109, .iconst 4, 0, 0, 0, 4), (110, .irem, 0, 0, 0, 0), (111, .iload 5, 0, 0, 0, 0), (113, .iconst 4, 0, 0, 0, 4), (114, .idiv, 0, 0, 0, 0), (115, .iload 5, 0, 0, 0, 0), (117, .iconst 4, 0, 0, 0, 4), (118, .irem, 0, 0, 0, 0), (119, .invokevirtual 168, 0, 62, 940, 0), (122, .istore 4, 0, 0, 0, 0), (124, .iload_n 2, 0, 0, 0, 0), (125, .ifCond .ne 7, 0, 0, 0, 0), (128, .iload_n 1, 0, 0, 0, 0), (129, .goto 24, 0, 0, 0, 0), (132, .aload_n 0, 0, 0, 0, 0), (133, .getfield 53, 11, 25, 770, 0), (136, .sipush 576, 0, 0, 0, 576), (139, .iload_n 2, 0, 0, 0, 0), (140, .iconst 1, 0, 0, 0, 1), (141, .isub, 0, 0, 0, 0), (142, .imul, 0, 0, 0, 0), (143, .aload_n 0, 0, 0, 0, 0), (144, .getfield 56, 11, 26, 771, 0), (147, .iload_n 2, 0, 0, 0, 0), (148, .iconst 1, 0, 0, 0, 1), (149, .isub, 0, 0, 0, 0), (150, .iaload, 0, 0, 0, 0), (151, .iadd, 0, 0, 0, 0), (152, .iaload, 0, 0, 0, 0), (153, .istore 6, 0, 0, 0, 0), (155, .iload 4, 0, 0, 0, 0), (157, .aload_n 0, 0, 0, 0, 0), (158, .getfield 53, 11, 25, 770, 0), (161, .sipush 576, 0, 0, 0, 576), (164, .iload_n 2, 0, 0, 0, 0), (165, .imul, 0, 0, 0, 0), (166, .iload 5, 0, 0, 0, 0), (168, .iadd, 0, 0, 0, 0), (169, .iaload, 0, 0, 0, 0), (170, .iadd, 0, 0, 0, 0), (171, .iload 6, 0, 0, 0, 0), (173, .if_icmp .ne 8, 0, 0, 0, 0), (176, .iload 5, 0, 0, 0, 0), (178, .goto 5, 0, 0, 0, 0), (181, .bipush (-9), 0, 0, 0, (-9)), (183, .istore_n 3, 0, 0, 0, 0), (184, .iinc 5 1, 0, 0, 0, 1), (187, .goto (-156), 0, 0, 0, 0), (190, .aload_n 0, 0, 0, 0, 0), (191, .getfield 56, 11, 26, 771, 0), (194, .iload_n 2, 0, 0, 0, 0), (195, .iload_n 3, 0, 0, 0, 0), (196, .iastore, 0, 0, 0, 0), (197, .aload_n 0, 0, 0, 0, 0), (198, .dup, 0, 0, 0, 0), (199, .getfield 162, 11, 27, 772, 0), (202, .iload 4, 0, 0, 0, 0), (204, .bipush 10, 0, 0, 0, 10), (206, .idiv, 0, 0, 0, 0), (207, .iadd, 0, 0, 0, 0), (208, .putfield 162, 11, 27, 772, 0), (211, .aload_n 0, 0, 0, 0, 0), (212, .dup, 0, 0, 0, 0), (213, .getfield 165, 11, 28, 773, 0), (216, .iload 4, 0, 0, 0, 0), (218, .bipush 10, 0, 0, 0, 10), (220, .irem, 0, 0, 0, 0), (221, .iadd, 0, 0, 0, 0), (222, .putfield 165, 11, 28, 773, 0), (225, .iinc 2 1, 0, 0, 0, 1), (228, .goto (-216), 0, 0, 0, 0), (231, .return_, 0, 0, 0, 0)]
set_option maxRecDepth 100000 in
theorem ok_X11_laysParse : k_X11_laysParse.all (gl_ok1 gl_mn m_X11_laysParse) = true := by decide +kernel
def k_X11_parse : List (Nat × gl_O) := [(0, .aload_n 0, 0, 0, 0, 0), (1, .iconst 0, 0, 0, 0, 0), (2, .putfield 63, 11, 0, 745, 0), (5, .iload_n 1, 0, 0, 0, 0), (6, .iconst 0, 0, 0, 0, 0), (7, .iconst 2, 0, 0, 0, 2), (8, .invokestatic 69, 0, 33, 837, 0), (11, .ifCond .ne 5, 0, 0, 0, 0), (14, .iconst (-1), 0, 0, 0, (-1)), (15, .ireturn, 0, 0, 0, 0), (16, .aload_n 0, 0, 0, 0, 0), (17, .invokevirtual 172, 0, 64, 927, 0), (20, .istore_n 2, 0, 0, 0, 0), (21, .iload_n 2, 0, 0, 0, 0), (22, .ldc 155, 0, 0, 930, 100000), (24, .if_icmp .lt 6, 0, 0, 0, 0), (27, .bipush (-9), 0, 0, 0, (-9)), (29, .ireturn, 0, 0, 0, 0), (30, .aload_n 0, 0, 0, 0, 0), (31, .iload_n 2, 0, 0, 0, 0), (32, .invokevirtual 176, 0, 65, 937, 0), (35, .iload_n 1, 0, 0, 0, 0), (36, .ifCond .ne 7, 0, 0, 0, 0), (39, .iload_n 2, 0, 0, 0, 0), (40, .goto 19, 0, 0, 0, 0), (43, .iload_n 1, 0, 0, 0, 0), (44, .iconst 1, 0, 0, 0, 1), (45, .if_icmp .ne 10, 0, 0, 0, 0), (48, .aload_n 0, 0, 0, 0, 0), (49, .getfield 162, 11, 27, 772, 0), (52, .goto 7, 0, 0, 0, 0), (55, .aload_n 0, 0, 0, 0, 0), (56, .getfield 165, 11, 28, 773, 0), (59, .ireturn, 0, 0, 0, 0)]
set_option maxRecDepth 100000 in
theorem ok_X11_parse : k_X11_parse.all (gl_ok1 gl_mn m_X11_parse) = true := by decide +kernel
def k_X11_parsed : List (Nat × gl_O) := [(0, .aload_n 0, 0, 0, 0, 0), (1, .iconst 0, 0, 0, 0, 0), (2, .putfield 63, 11, 0, 745, 0), (5, .aload_n 0, 0, 0, 0, 0), (6, .iload_n 1, 0, 0, 0, 0), (7, .invokevirtual 179, 0, 35, 947, 0), (10, .ifCond .eq 12, 0, 0, 0, 0), (13, .iload_n 2, 0, 0, 0, 0), (14, .iconst 0, 0, 0, 0, 0), (15, .iconst 1, 0, 0, 0, 1), (16, .invokestatic 69, 0, 33, 837, 0), (19, .ifCond .ne 5, 0, 0, 0, 0), (22, .iconst (-1), 0, 0, 0, (-1)), (23, .ireturn, 0, 0, 0, 0), (24, .aload_n 0, 0, 0, 0, 0), (25, .invokevirtual 172, 0, 64, 927, 0), (28, .istore_n 3, 0, 0, 0, 0), (29, .iload_n 3, 0, 0, 0, 0), (30, .ldc 155, 0, 0, 930, 100000), (32, .if_icmp .lt 6, 0, 0, 0, 0), (35, .bipush (-9), 0, 0, 0, (-9)), (37, .ireturn, 0, 0, 0, 0), (38, .aload_n 0, 0, 0, 0, 0), (39, .iload_n 3, 0, 0, 0, 0), (40, .invokevirtual 176, 0, 65, 937, 0), (43, .iload_n 2, 0, 0, 0, 0), (44, .ifCond .ne 14, 0, 0, 0, 0), (47, .aload_n 0, 0, 0, 0, 0), (48, .getfield 56, 11, 26, 771, 0), (51, .iload_n 1, 0, 0, 0, 0), (52, .iaload, 0, 0, 0, 0), (53, .iconst 4, 0, 0, 0, 4), (54, .idiv, 0, 0, 0, 0), (55, .goto 11, 0, 0, 0, 0), (58, .aload_n 0, 0, 0, 0, 0), (59, .getfield 56, 11, 26, 771, 0), (62, .iload_n 1, 0, 0, 0, 0), (63, .iaload, 0, 0, 0, 0), (64, .iconst 4, 0, 0, 0, 4), (65, .irem, 0, 0, 0, 0), (66, .ireturn, 0, 0, 0, 0)]
set_option maxRecDepth 100000 in
theorem ok_X11_parsed : k_X11_parsed.all (gl_ok1 gl_mn m_X11_parsed) = true := by decide +kernel
end
section
def k_X11_reach : List (Nat × gl_O) := [(0, .aload_n 0, 0, 0, 0, 0), (1, .iconst 0, 0, 0, 0, 0), (2, .putfield 63, 11, 0, 745, 0), (5, .aload_n 0, 0, 0, 0, 0), (6, .getfield 25, 11, 10, 755, 0), (9, .iconst 0, 0, 0, 0, 0), (10, .iaload, 0, 0, 0, 0), (11, .istore_n 1, 0, 0, 0, 0), (12, .iload_n 1, 0, 0, 0, 0), (13, .istore_n 2, 0, 0, 0, 0), (14, .iload_n 2, 0, 0, 0, 0), (15, .ifCond .le 34, 0, 0, 0, 0), (18, .aload_n 0, 0, 0, 0, 0), (19, .getfield 25, 11, 10, 755, 0), (22, .iconst 0, 0, 0, 0, 0), (23, .iload_n 2, 0, 0, 0, 0), (24, .iastore, 0, 0, 0, 0), (25, .aload_n 0, 0, 0, 0, 0), (26, .invokevirtual 172, 0, 64, 927, 0), (29, .ldc 155, 0, 0, 930, 100000), (31, .if_icmp .ge 12, 0, 0, 0, 0), (34, .aload_n 0, 0, 0, 0, 0), (35, .getfield 25, 11, 10, 755, 0), (38, .iconst 0, 0, 0, 0, 0), (39, .iload_n 1, 0, 0, 0, 0), (40, .iastore, 0, 0, 0, 0), (41, .iload_n 2, 0, 0, 0, 0), (42, .ireturn, 0, 0, 0, 0), (43, .iinc 2 (-1), 0, 0, 0, (-1)), (46, .goto (-32), 0, 0, 0, 0), (49, .aload_n 0, 0, 0, 0, 0), (50, .getfield 25, 11, 10, 755, 0), (53, .iconst 0, 0, 0, 0, 0), (54, .iload_n 1, 0, 0, 0, 0), (55, .iastore, 0, 0, 0, 0), (56, .iconst 0, 0, 0, 0, 0), (57, .ireturn, 0, 0, 0, 0)]
set_option maxRecDepth 100000 in
theorem ok_X11_reach : k_X11_reach.all (gl_ok1 gl_mn m_X11_reach) = true := by decide +kernel
def k_X11_fitOf : List (Nat × gl_O) := [(0, .iconst 0, 0, 0, 0, 0), (1, .istore_n 2, 0, 0, 0, 0), (2, .iconst 0, 0, 0, 0, 0), (3, .istore_n 3, 0, 0, 0, 0), (4, .iload_n 3, 0, 0, 0, 0), (5, .aload_n 0, 0, 0, 0, 0), (6, .getfield 25, 11, 10, 755, 0), (9, .iconst 0, 0, 0, 0, 0), (10, .iaload, 0, 0, 0, 0), (11, .if_icmp .ge 33, 0, 0, 0, 0), (14, .iload_n 2, 0, 0, 0, 0), (15, .aload_n 0, 0, 0, 0, 0), (16, .iload_n 1, 0, 0, 0, 0), (17, .aload_n 0, 0, 0, 0, 0), (18, .getfield 25, 11, 10, 755, 0), (21, .iconst 1, 0, 0, 0, 1), (22, .iload_n 3, 0, 0, 0, 0), (23, .iadd, 0, 0, 0, 0), (24, .iaload, 0, 0, 0, 0), (25, .invokevirtual 145, 0, 55, 893, 0), (28, .ifCond .le 7, 0, 0, 0, 0), (31, .iconst 1, 0, 0, 0, 1), (32, .goto 4, 0, 0, 0, 0), (35, .iconst 0, 0, 0, 0, 0), (36, .iadd, 0, 0, 0, 0), (37, .istore_n 2, 0, 0, 0, 0), (38, .iinc 3 1, 0, 0, 0, 1), (41, .goto (-37), 0, 0, 0, 0), (44, .iload_n 2, 0, 0, 0, 0), (45, .ireturn, 0, 0, 0, 0)]
set_option maxRecDepth 100000 in
theorem ok_X11_fitOf : k_X11_fitOf.all (gl_ok1 gl_mn m_X11_fitOf) = true := by decide +kernel
def k_X11_fit : List (Nat × gl_O) := [(0, .aload_n 0, 0, 0, 0, 0), (1, .iconst 0, 0, 0, 0, 0), (2, .putfield 63, 11, 0, 745, 0), (5, .aload_n 0, 0, 0, 0, 0), (6, .iload_n 1, 0, 0, 0, 0), (7, .invokevirtual 139, 0, 34, 877, 0), (10, .ifCond .eq 11, 0, 0, 0, 0), (13, .aload_n 0, 0, 0, 0, 0), (14, .iload_n 1, 0, 0, 0, 0), (15, .invokevirtual 182, 0, 69, 958, 0), (18, .goto 4, 0, 0, 0, 0), (21, .iconst (-1), 0, 0, 0, (-1)), (22, .ireturn, 0, 0, 0, 0)]
set_option maxRecDepth 100000 in
theorem ok_X11_fit : k_X11_fit.all (gl_ok1 gl_mn m_X11_fit) = true := by decide +kernel
def k_X11_home : List (Nat × gl_O) := [(0, .aload_n 0, 0, 0, 0, 0), (1, .iconst 0, 0, 0, 0, 0), (2, .putfield 63, 11, 0, 745, 0), (5, .bipush (-9), 0, 0, 0, (-9)), (7, .istore_n 1, 0, 0, 0, 0), (8, .iconst (-1), 0, 0, 0, (-1)), (9, .istore_n 2, 0, 0, 0, 0), (10, .iconst 0, 0, 0, 0, 0), (11, .istore_n 3, 0, 0, 0, 0), (12, .iload_n 3, 0, 0, 0, 0), (13, .bipush 24, 0, 0, 0, 24), (15, .aload_n 0, 0, 0, 0, 0), (16, .getfield 66, 11, 2, 747, 0), (19, .imul, 0, 0, 0, 0), (20, .if_icmp .ge 41, 0, 0, 0, 0), (23, .aload_n 0, 0, 0, 0, 0), (24, .iload_n 3, 0, 0, 0, 0), (25, .invokevirtual 182, 0, 69, 958, 0), (28, .istore 4, 0, 0, 0, 0), (30, .iload 4, 0, 0, 0, 0), (32, .iload_n 2, 0, 0, 0, 0), (33, .if_icmp .le 7, 0, 0, 0, 0), (36, .iload_n 3, 0, 0, 0, 0), (37, .goto 4, 0, 0, 0, 0), (40, .iload_n 1, 0, 0, 0, 0), (41, .istore_n 1, 0, 0, 0, 0), (42, .iload 4, 0, 0, 0, 0), (44, .iload_n 2, 0, 0, 0, 0), (45, .if_icmp .le 8, 0, 0, 0, 0), (48, .iload 4, 0, 0, 0, 0), (50, .goto 4, 0, 0, 0, 0), (53, .iload_n 2, 0, 0, 0, 0), (54, .istore_n 2, 0, 0, 0, 0), (55, .iinc 3 1, 0, 0, 0, 1), (58, .goto (-46), 0, 0, 0, 0), (61, .iload_n 1, 0, 0, 0, 0), (62, .ireturn, 0, 0, 0, 0)]
set_option maxRecDepth 100000 in
theorem ok_X11_home : k_X11_home.all (gl_ok1 gl_mn m_X11_home) = true := by decide +kernel
def k_X11_remembers : List (Nat × gl_O) := [(0, .aload_n 0, 0, 0, 0, 0), (1, .getfield 106, 11, 12, 757, 0), (4, .bipush 10, 0, 0, 0, 10), (6, .if_icmp .ne 43, 0, 0, 0, 0), (9, .iconst 0, 0, 0, 0, 0), (10, .istore_n 1, 0, 0, 0, 0), (11, .iload_n 1, 0, 0, 0, 0), (12, .sipush 153, 0, 0, 0, 153), (15, .if_icmp .ge 24, 0, 0, 0, 0), (18, .aload_n 0, 0, 0, 0, 0), (19, .getfield 28, 11, 11, 756, 0), (22, .iload_n 1, 0, 0, 0, 0), (23, .aload_n 0, 0, 0, 0, 0), (24, .getfield 28, 11, 11, 756, 0), (27, .iload_n 1, 0, 0, 0, 0), (28, .bipush 17, 0, 0, 0, 17), (30, .iadd, 0, 0, 0, 0), (31, .iaload, 0, 0, 0, 0), (32, .iastore, 0, 0, 0, 0), (33, .iinc 1 1, 0, 0, 0, 1), (36, .goto (-25), 0, 0, 0, 0), (39, .aload_n 0, 0, 0, 0, 0), (40, .dup, 0, 0, 0, 0), (41, .getfield 106, 11, 12, 757, 0), (44, .iconst 1, 0, 0, 0, 1), (45, .isub, 0, 0, 0, 0), (46, .putfield 106, 11, 12, 757, 0), (49, .iconst 0, 0, 0, 0, 0), (50, .istore_n 1, 0, 0, 0, 0), (51, .iload_n 1, 0, 0, 0, 0), (52, .bipush 17, 0, 0, 0, 17), (54, .if_icmp .ge 29, 0, 0, 0, 0), (57, .aload_n 0, 0, 0, 0, 0), (58, .getfield 28, 11, 11, 756, 0), (61, .bipush 17, 0, 0, 0, 17), (63, .aload_n 0, 0, 0, 0, 0), (64, .getfield 106, 11, 12, 757, 0), (67, .imul, 0, 0, 0, 0), (68, .iload_n 1, 0, 0, 0, 0), (69, .iadd, 0, 0, 0, 0), (70, .aload_n 0, 0, 0, 0, 0), (71, .getfield 25, 11, 10, 755, 0), (74, .iload_n 1, 0, 0, 0, 0), (75, .iaload, 0, 0, 0, 0), (76, .iastore, 0, 0, 0, 0), (77, .iinc 1 1, 0, 0, 0, 1), (80, .goto (-29), 0, 0, 0, 0), (83, .aload_n 0, 0, 0, 0, 0), (84, .dup, 0, 0, 0, 0), (85, .getfield 106, 11, 12, 757, 0), (88, .iconst 1, 0, 0, 0, 1), (89, .iadd, 0, 0, 0, 0), (90, .putfield 106, 11, 12, 757, 0), (93, .return_, 0, 0, 0, 0)]
set_option maxRecDepth 100000 in
theorem ok_X11_remembers : k_X11_remembers.all (gl_ok1 gl_mn m_X11_remembers) = true := by decide +kernel
def k_X11_plays : List (Nat × gl_O) := [(0, .aload_n 0, 0, 0, 0, 0), (1, .iconst 0, 0, 0, 0, 0), (2, .putfield 63, 11, 0, 745, 0), (5, .iload_n 1, 0, 0, 0, 0), (6, .iconst 0, 0, 0, 0, 0), (7, .bipush 60, 0, 0, 0, 60), (9, .invokestatic 69, 0, 33, 837, 0), (12, .ifCond .ne 5, 0, 0, 0, 0), (15, .iconst (-1), 0, 0, 0, (-1)), (16, .ireturn, 0, 0, 0, 0), (17, .aload_n 0, 0, 0, 0, 0), (18, .getfield 25, 11, 10, 755, 0), (21, .iconst 0, 0, 0, 0, 0), (22, .iaload, 0, 0, 0, 0), (23, .bipush 16, 0, 0, 0, 16), (25, .if_icmp .ne 6, 0, 0, 0, 0), (28, .bipush (-3), 0, 0, 0, (-3)), (30, .ireturn, 0, 0, 0, 0), (31, .aload_n 0, 0, 0, 0, 0), (32, .invokevirtual 185, 0, 72, 969, 0), (35, .aload_n 0, 0, 0, 0, 0), (36, .getfield 25, 11, 10, 755, 0), (39, .iconst 0, 0, 0, 0, 0), (40, .dup2, 0, 0, 0, 0), (41, .iaload, 0, 0, 0, 0), (42, .iconst 1, 0, 0, 0, 1), (43, .iadd, 0, 0, 0, 0), (44, .iastore, 0, 0, 0, 0), (45, .aload_n 0, 0, 0, 0, 0), (46, .getfield 25, 11, 10, 755, 0), (49, .aload_n 0, 0, 0, 0, 0), (50, .getfield 25, 11, 10, 755, 0), (53, .iconst 0, 0, 0, 0, 0), (54, .iaload, 0, 0, 0, 0), (55, .iload_n 1, 0, 0, 0, 0), (56, .iastore, 0, 0, 0, 0), (57, .aload_n 0, 0, 0, 0, 0), (58, .getfield 25, 11, 10, 755, 0), (61, .iconst 0, 0, 0, 0, 0), (62, .iaload, 0, 0, 0, 0), (63, .ireturn, 0, 0, 0, 0)]
set_option maxRecDepth 100000 in
theorem ok_X11_plays : k_X11_plays.all (gl_ok1 gl_mn m_X11_plays) = true := by decide +kernel
def k_X11_cuts : List (Nat × gl_O) := [(0, .aload_n 0, 0, 0, 0, 0), (1, .iconst 0, 0, 0, 0, 0), (2, .putfield 63, 11, 0, 745, 0), (5, .aload_n 0, 0, 0, 0, 0), (6, .getfield 25, 11, 10, 755, 0), (9, .iconst 0, 0, 0, 0, 0), (10, .iaload, 0, 0, 0, 0), (11, .ifCond .ne 6, 0, 0, 0, 0), (14, .bipush (-2), 0, 0, 0, (-2)), (16, .ireturn, 0, 0, 0, 0), (17, .aload_n 0, 0, 0, 0, 0), (18, .invokevirtual 185, 0, 72, 969, 0), (21, .aload_n 0, 0, 0, 0, 0), (22, .getfield 25, 11, 10, 755, 0), (25, .iconst 0, 0, 0, 0, 0), (26, .dup2, 0, 0, 0, 0), (27, .iaload, 0, 0, 0, 0), (28, .iconst 1, 0, 0, 0, 1), (29, .isub, 0, 0, 0, 0), (30, .iastore, 0, 0, 0, 0), (31, .aload_n 0, 0, 0, 0, 0), (32, .getfield 25, 11, 10, 755, 0), (35, .iconst 1, 0, 0, 0, 1), (36, .aload_n 0, 0, 0, 0, 0), (37, .getfield 25, 11, 10, 755, 0), (40, .iconst 0, 0, 0, 0, 0), (41, .iaload, 0, 0, 0, 0), (42, .iadd, 0, 0, 0, 0), (43, .iaload, 0, 0, 0, 0), (44, .ireturn, 0, 0, 0, 0)]
set_option maxRecDepth 100000 in
theorem ok_X11_cuts : k_X11_cuts.all (gl_ok1 gl_mn m_X11_cuts) = true := by decide +kernel
def k_X11_mends : List (Nat × gl_O) := [(0, .aload_n 0, 0, 0, 0, 0), (1, .iconst 0, 0, 0, 0, 0), (2, .putfield 63, 11, 0, 745, 0), (5, .aload_n 0, 0, 0, 0, 0), (6, .iload_n 1, 0, 0, 0, 0), (7, .invokevirtual 179, 0, 35, 947, 0), (10, .ifCond .eq 13, 0, 0, 0, 0), (13, .iload_n 2, 0, 0, 0, 0), (14, .iconst 0, 0, 0, 0, 0), (15, .bipush 60, 0, 0, 0, 60), (17, .invokestatic 69, 0, 33, 837, 0), (20, .ifCond .ne 5, 0, 0, 0, 0), (23, .iconst (-1), 0, 0, 0, (-1)), (24, .ireturn, 0, 0, 0, 0), (25, .aload_n 0, 0, 0, 0, 0), (26, .getfield 25, 11, 10, 755, 0), (29, .iconst 1, 0, 0, 0, 1), (30, .iload_n 1, 0, 0, 0, 0), (31, .iadd, 0, 0, 0, 0), (32, .iaload, 0, 0, 0, 0), (33, .istore_n 3, 0, 0, 0, 0), (34, .iload_n 3, 0, 0, 0, 0), (35, .iload_n 2, 0, 0, 0, 0), (36, .if_icmp .ne 6, 0, 0, 0, 0), (39, .bipush (-2), 0, 0, 0, (-2)), (41, .ireturn, 0, 0, 0, 0), (42, .aload_n 0, 0, 0, 0, 0), (43, .invokevirtual 185, 0, 72, 969, 0), (46, .aload_n 0, 0, 0, 0, 0), (47, .getfield 25, 11, 10, 755, 0), (50, .iconst 1, 0, 0, 0, 1), (51, .iload_n 1, 0, 0, 0, 0), (52, .iadd, 0, 0, 0, 0), (53, .iload_n 2, 0, 0, 0, 0), (54, .iastore, 0, 0, 0, 0), (55, .iload_n 3, 0, 0, 0, 0), (56, .ireturn, 0, 0, 0, 0)]
set_option maxRecDepth 100000 in
theorem ok_X11_mends : k_X11_mends.all (gl_ok1 gl_mn m_X11_mends) = true := by decide +kernel
def k_X11_moves : List (Nat × gl_O) := [(0, .aload_n 0, 0, 0, 0, 0), (1, .iconst 0, 0, 0, 0, 0), (2, .putfield 63, 11, 0, 745, 0), (5, .iload_n 1, 0, 0, 0, 0), (6, .bipush (-20), 0, 0, 0, (-20)), (8, .bipush 20, 0, 0, 0, 20), (10, .invokestatic 69, 0, 33, 837, 0), (13, .istore_n 2, 0, 0, 0, 0), (14, .iconst 0, 0, 0, 0, 0), (15, .istore_n 3, 0, 0, 0, 0), (16, .iload_n 3, 0, 0, 0, 0), (17, .aload_n 0, 0, 0, 0, 0), (18, .getfield 25, 11, 10, 755, 0), (21, .iconst 0, 0, 0, 0, 0), (22, .iaload, 0, 0, 0, 0), (23, .if_icmp .ge 30, 0, 0, 0, 0), (26, .iload_n 2, 0, 0, 0, 0), (27, .ifCond .eq 26, 0, 0, 0, 0), (30, .aload_n 0, 0, 0, 0, 0), (31, .getfield 25, 11, 10, 755, 0), (34, .iconst 1, 0, 0, 0, 1), (35, .iload_n 3, 0, 0, 0, 0), (36, .iadd, 0, 0, 0, 0), (37, .iaload, 0, 0, 0, 0), (38, .iload_n 1, 0, 0, 0, 0), (39, .iadd, 0, 0, 0, 0), (40, .iconst 0, 0, 0, 0, 0), (41, .bipush 60, 0, 0, 0, 60), (43, .invokestatic 69, 0, 33, 837, 0), (46, .istore_n 2, 0, 0, 0, 0), (47, .iinc 3 1, 0, 0, 0, 1), (50, .goto (-34), 0, 0, 0, 0), (53, .iload_n 2, 0, 0, 0, 0), (54, .ifCond .ne 5, 0, 0, 0, 0), (57, .iconst (-1), 0, 0, 0, (-1)), (58, .ireturn, 0, 0, 0, 0), (59, .aload_n 0, 0, 0, 0, 0), (60, .getfield 25, 11, 10, 755, 0), (63, .iconst 0, 0, 0, 0, 0), (64, .iaload, 0, 0, 0, 0), (65, .ifCond .eq 7, 0, 0, 0, 0), (68, .iload_n 1, 0, 0, 0, 0), (69, .ifCond .ne 6, 0, 0, 0, 0), (72, .bipush (-2), 0, 0, 0, (-2)), (74, .ireturn, 0, 0, 0, 0), (75, .aload_n 0, 0, 0, 0, 0), (76, .invokevirtual 185, 0, 72, 969, 0), (79, .iconst 1, 0, 0, 0, 1), (80, .istore_n 3, 0, 0, 0, 0), (81, .iload_n 3, 0, 0, 0, 0), (82, .aload_n 0, 0, 0, 0, 0), (83, .getfield 25, 11, 10, 755, 0), (86, .iconst 0, 0, 0, 0, 0), (87, .iaload, 0, 0, 0, 0), (88, .if_icmp .gt 19, 0, 0, 0, 0), (91, .aload_n 0, 0, 0, 0, 0), (92, .getfield 25, 11, 10, 755, 0), (95, .iload_n 3, 0, 0, 0, 0), (96, .dup2, 0, 0, 0, 0), (97, .iaload, 0, 0, 0, 0), (98, .iload_n 1, 0, 0, 0, 0), (99, .iadd, 0, 0, 0, 0), (100, .iastore, 0, 0, 0, 0), (101, .iinc 3 1, 0, 0, 0, 1), (104, .goto (-23), 0, 0, 0, 0), (107, .aload_n 0, 0, 0, 0, 0), (108, .getfield 25, 11, 10, 755, 0), (111, .iconst 0, 0, 0, 0, 0), (112, .iaload, 0, 0, 0, 0), (113, .ireturn, 0, 0, 0, 0)]
set_option maxRecDepth 100000 in
theorem ok_X11_moves : k_X11_moves.all (gl_ok1 gl_mn m_X11_moves) = true := by decide +kernel
def k_X11_undo : List (Nat × gl_O) := [(0, .aload_n 0, 0, 0, 0, 0), (1, .iconst 0, 0, 0, 0, 0), (2, .putfield 63, 11, 0, 745, 0), (5, .aload_n 0, 0, 0, 0, 0), (6, .getfield 106, 11, 12, 757, 0), (9, .ifCond .ne 6, 0, 0, 0, 0), (12, .bipush (-2), 0, 0, 0, (-2)), (14, .ireturn, 0, 0, 0, 0), (15, .aload_n 0, 0, 0, 0, 0), (16, .dup, 0, 0, 0, 0), (17, .getfield 106, 11, 12, 757, 0), (20, .iconst 1, 0, 0, 0, 1), (21, .isub, 0, 0, 0, 0), (22, .putfield 106, 11, 12, 757, 0), (25, .iconst 0, 0, 0, 0, 0), (26, .istore_n 1, 0, 0, 0, 0), (27, .iload_n 1, 0, 0, 0, 0), (28, .bipush 17, 0, 0, 0, 17), (30, .if_icmp .ge 29, 0, 0, 0, 0), (33, .aload_n 0, 0, 0, 0, 0), (34, .getfield 25, 11, 10, 755, 0), (37, .iload_n 1, 0, 0, 0, 0), (38, .aload_n 0, 0, 0, 0, 0), (39, .getfield 28, 11, 11, 756, 0), (42, .bipush 17, 0, 0, 0, 17), (44, .aload_n 0, 0, 0, 0, 0), (45, .getfield 106, 11, 12, 757, 0), (48, .imul, 0, 0, 0, 0), (49, .iload_n 1, 0, 0, 0, 0), (50, .iadd, 0, 0, 0, 0), (51, .iaload, 0, 0, 0, 0), (52, .iastore, 0, 0, 0, 0), (53, .iinc 1 1, 0, 0, 0, 1), (56, .goto (-29), 0, 0, 0, 0), (59, .aload_n 0, 0, 0, 0, 0), (60, .getfield 106, 11, 12, 757, 0), (63, .ireturn, 0, 0, 0, 0)]
set_option maxRecDepth 100000 in
theorem ok_X11_undo : k_X11_undo.all (gl_ok1 gl_mn m_X11_undo) = true := by decide +kernel
def k_X11_note : List (Nat × gl_O) := [(0, .aload_n 0, 0, 0, 0, 0), (1, .iconst 0, 0, 0, 0, 0), (2, .putfield 63, 11, 0, 745, 0), (5, .aload_n 0, 0, 0, 0, 0), (6, .iload_n 1, 0, 0, 0, 0), (7, .invokevirtual 179, 0, 35, 947, 0), (10, .ifCond .eq 14, 0, 0, 0, 0), (13, .aload_n 0, 0, 0, 0, 0), (14, .getfield 25, 11, 10, 755, 0), (17, .iconst 1, 0, 0, 0, 1), (18, .iload_n 1, 0, 0, 0, 0), (19, .iadd, 0, 0, 0, 0), (20, .iaload, 0, 0, 0, 0), (21, .goto 4, 0, 0, 0, 0), (24, .iconst (-1), 0, 0, 0, (-1)), (25, .ireturn, 0, 0, 0, 0)]
set_option maxRecDepth 100000 in
theorem ok_X11_note : k_X11_note.all (gl_ok1 gl_mn m_X11_note) = true := by decide +kernel
def k_X11_sees : List (Nat × gl_O) := [(0, .aload_n 0, 0, 0, 0, 0), (1, .iconst 0, 0, 0, 0, 0), (2, .putfield 63, 11, 0, 745, 0), (5, .iload_n 1, 0, 0, 0, 0), (6, .iconst 0, 0, 0, 0, 0), (7, .bipush 120, 0, 0, 0, 120), (9, .invokestatic 69, 0, 33, 837, 0), (12, .ifCond .eq 12, 0, 0, 0, 0), (15, .iload_n 2, 0, 0, 0, 0), (16, .iconst 0, 0, 0, 0, 0), (17, .iconst 1, 0, 0, 0, 1), (18, .invokestatic 69, 0, 33, 837, 0), (21, .ifCond .ne 5, 0, 0, 0, 0), (24, .iconst (-1), 0, 0, 0, (-1)), (25, .ireturn, 0, 0, 0, 0), (26, .aload_n 0, 0, 0, 0, 0), (27, .getfield 109, 11, 15, 760, 0), (30, .bipush 8, 0, 0, 0, 8), (32, .if_icmp .ne 6, 0, 0, 0, 0), (35, .bipush (-3), 0, 0, 0, (-3)), (37, .ireturn, 0, 0, 0, 0), (38, .aload_n 0, 0, 0, 0, 0), (39, .getfield 38, 11, 16, 761, 0), (42, .aload_n 0, 0, 0, 0, 0), (43, .getfield 109, 11, 15, 760, 0), (46, .iload_n 1, 0, 0, 0, 0), (47, .iastore, 0, 0, 0, 0), (48, .aload_n 0, 0, 0, 0, 0), (49, .getfield 41, 11, 17, 762, 0), (52, .aload_n 0, 0, 0, 0, 0), (53, .getfield 109, 11, 15, 760, 0), (56, .iload_n 2, 0, 0, 0, 0), (57, .iastore, 0, 0, 0, 0), (58, .aload_n 0, 0, 0, 0, 0), (59, .dup, 0, 0, 0, 0), (60, .getfield 109, 11, 15, 760, 0), (63, .iconst 1, 0, 0, 0, 1), (64, .iadd, 0, 0, 0, 0), (65, .putfield 109, 11, 15, 760, 0), (68, .aload_n 0, 0, 0, 0, 0), (69, .getfield 109, 11, 15, 760, 0), (72, .ireturn, 0, 0, 0, 0)]
set_option maxRecDepth 100000 in
theorem ok_X11_sees : k_X11_sees.all (gl_ok1 gl_mn m_X11_sees) = true := by decide +kernel
def k_X11_forget : List (Nat × gl_O) := [(0, .aload_n 0, 0, 0, 0, 0), (1, .iconst 0, 0, 0, 0, 0), (2, .putfield 63, 11, 0, 745, 0), (5, .aload_n 0, 0, 0, 0, 0), (6, .getfield 109, 11, 15, 760, 0), (9, .istore_n 1, 0, 0, 0, 0), (10, .aload_n 0, 0, 0, 0, 0), (11, .iconst 0, 0, 0, 0, 0), (12, .putfield 109, 11, 15, 760, 0), (15, .iload_n 1, 0, 0, 0, 0), (16, .ireturn, 0, 0, 0, 0)]
set_option maxRecDepth 100000 in
theorem ok_X11_forget : k_X11_forget.all (gl_ok1 gl_mn m_X11_forget) = true := by decide +kernel
def k_X11_unseen : List (Nat × gl_O) := [(0, .aload_n 0, 0, 0, 0, 0), (1, .iconst 0, 0, 0, 0, 0), (2, .putfield 63, 11, 0, 745, 0), (5, .iconst 0, 0, 0, 0, 0), (6, .istore_n 1, 0, 0, 0, 0), (7, .iconst 0, 0, 0, 0, 0), (8, .istore_n 2, 0, 0, 0, 0), (9, .iload_n 2, 0, 0, 0, 0), (10, .bipush 24, 0, 0, 0, 24), (12, .aload_n 0, 0, 0, 0, 0), (13, .getfield 66, 11, 2, 747, 0), (16, .imul, 0, 0, 0, 0), (17, .if_icmp .ge 95, 0, 0, 0, 0), (20, .iconst 1, 0, 0, 0, 1), (21, .istore_n 3, 0, 0, 0, 0), (22, .iconst 0, 0, 0, 0, 0), (23, .istore 4, 0, 0, 0, 0), (25, .iload 4, 0, 0, 0, 0), (27, .aload_n 0, 0, 0, 0, 0), (28, .getfield 109, 11, 15, 760, 0), (31, .if_icmp .ge 58, 0, 0, 0, 0), (34, .iload_n 3, 0, 0, 0, 0), (35, .ifCond .eq 54, 0, 0, 0, 0), (38, .aload_n 0, 0, 0, 0, 0), (39, .iload_n 2, 0, 0, 0, 0), (40, .aload_n 0, 0, 0, 0, 0), (41, .getfield 38, 11, 16, 761, 0), (44, .iload 4, 0, 0, 0, 0), (46, .iaload, 0, 0, 0, 0), (47, .invokevirtual 145, 0, 55, 893, 0), (50, .ifCond .le 7, 0, 0, 0, 0), (53, .iconst 1, 0, 0, 0, 1), (54, .goto 4, 0, 0, 0, 0), (57, .iconst 0, 0, 0, 0, 0), (58, .aload_n 0, 0, 0, 0, 0), (59, .getfield 41, 11, 17, 762, 0), (62, .iload 4, 0, 0, 0, 0), (64, .iaload, 0, 0, 0, 0), (65, .iconst 1, 0, 0, 0, 1), (66, .if_icmp .ne 7, 0, 0, 0, 0), (69, .iconst 1, 0, 0, 0, 1), (70, .goto 4, 0, 0, 0, 0), (73, .iconst 0, 0, 0, 0, 0), (74, .if_icmp .ne 7, 0, 0, 0, 0), (77, .iconst 1, 0, 0, 0, 1), (78, .goto 4, 0, 0, 0, 0), (81, .iconst 0, 0, 0, 0, 0), (82, .istore_n 3, 0, 0, 0, 0), (83, .iinc 4 1, 0, 0, 0, 1), (86, .goto (-61), 0, 0, 0, 0), (89, .iload_n 1, 0, 0, 0, 0), (90, .iload_n 3, 0, 0, 0, 0), (91, .ifCond .eq 12, 0, 0, 0, 0), (94, .iconst 1, 0, 0, 0, 1), (95, .iload_n 2, 0, 0, 0, 0), (96, .bipush 24, 0, 0, 0, 24), (98, .idiv, 0, 0, 0, 0), (99, .ishl, 0, 0, 0, 0), (100, .goto 4, 0, 0, 0, 0), (103, .iconst 0, 0, 0, 0, 0), (104, .ior, 0, 0, 0, 0), (105, .istore_n 1, 0, 0, 0, 0), (106, .iinc 2 1, 0, 0, 0, 1), (109, .goto (-100), 0, 0, 0, 0), (112, .iload_n 1, 0, 0, 0, 0), (113, .ireturn, 0, 0, 0, 0)]
set_option maxRecDepth 100000 in
theorem ok_X11_unseen : k_X11_unseen.all (gl_ok1 gl_mn m_X11_unseen) = true := by decide +kernel
def k_X11_keep : List (Nat × gl_O) := [(0, .aload_n 0, 0, 0, 0, 0), (1, .iconst 0, 0, 0, 0, 0), (2, .putfield 63, 11, 0, 745, 0), (5, .iload_n 1, 0, 0, 0, 0), (6, .iconst 0, 0, 0, 0, 0), (7, .iconst 1, 0, 0, 0, 1), (8, .invokestatic 69, 0, 33, 837, 0), (11, .ifCond .ne 5, 0, 0, 0, 0), (14, .iconst (-1), 0, 0, 0, (-1)), (15, .ireturn, 0, 0, 0, 0), (16, .iconst 0, 0, 0, 0, 0), (17, .istore_n 2, 0, 0, 0, 0), (18, .iload_n 2, 0, 0, 0, 0), (19, .bipush 17, 0, 0, 0, 17), (21, .if_icmp .ge 26, 0, 0, 0, 0), (24, .aload_n 0, 0, 0, 0, 0), (25, .getfield 31, 11, 13, 758, 0), (28, .bipush 17, 0, 0, 0, 17), (30, .iload_n 1, 0, 0, 0, 0), (31, .imul, 0, 0, 0, 0), (32, .iload_n 2, 0, 0, 0, 0), (33, .iadd, 0, 0, 0, 0), (34, .aload_n 0, 0, 0, 0, 0), (35, .getfield 25, 11, 10, 755, 0), (38, .iload_n 2, 0, 0, 0, 0), (39, .iaload, 0, 0, 0, 0), (40, .iastore, 0, 0, 0, 0), (41, .iinc 2 1, 0, 0, 0, 1), (44, .goto (-26), 0, 0, 0, 0), (47, .aload_n 0, 0, 0, 0, 0), (48, .getfield 34, 11, 14, 759, 0), (51, .iload_n 1, 0, 0, 0, 0), (52, .iconst 1, 0, 0, 0, 1), (53, .bastore, 0, 0, 0, 0), (54, .aload_n 0, 0, 0, 0, 0), (55, .getfield 25, 11, 10, 755, 0), (58, .iconst 0, 0, 0, 0, 0), (59, .iaload, 0, 0, 0, 0), (60, .ireturn, 0, 0, 0, 0)]
set_option maxRecDepth 100000 in
theorem ok_X11_keep : k_X11_keep.all (gl_ok1 gl_mn m_X11_keep) = true := by decide +kernel
def k_X11_back : List (Nat × gl_O) := [(0, .aload_n 0, 0, 0, 0, 0), (1, .iconst 0, 0, 0, 0, 0), (2, .putfield 63, 11, 0, 745, 0), (5, .iload_n 1, 0, 0, 0, 0), (6, .iconst 0, 0, 0, 0, 0), (7, .iconst 1, 0, 0, 0, 1), (8, .invokestatic 69, 0, 33, 837, 0), (11, .ifCond .ne 5, 0, 0, 0, 0), (14, .iconst (-1), 0, 0, 0, (-1)), (15, .ireturn, 0, 0, 0, 0), (16, .aload_n 0, 0, 0, 0, 0), (17, .getfield 34, 11, 14, 759, 0), (20, .iload_n 1, 0, 0, 0, 0), (21, .baload, 0, 0, 0, 0), (22, .ifCond .ne 6, 0, 0, 0, 0), (25, .bipush (-2), 0, 0, 0, (-2)), (27, .ireturn, 0, 0, 0, 0), (28, .iconst 0, 0, 0, 0, 0), (29, .istore_n 2, 0, 0, 0, 0), (30, .iload_n 2, 0, 0, 0, 0), (31, .bipush 17, 0, 0, 0, 17), (33, .if_icmp .ge 26, 0, 0, 0, 0), (36, .aload_n 0, 0, 0, 0, 0), (37, .getfield 25, 11, 10, 755, 0), (40, .iload_n 2, 0, 0, 0, 0), (41, .aload_n 0, 0, 0, 0, 0), (42, .getfield 31, 11, 13, 758, 0), (45, .bipush 17, 0, 0, 0, 17), (47, .iload_n 1, 0, 0, 0, 0), (48, .imul, 0, 0, 0, 0), (49, .iload_n 2, 0, 0, 0, 0), (50, .iadd, 0, 0, 0, 0), (51, .iaload, 0, 0, 0, 0), (52, .iastore, 0, 0, 0, 0), (53, .iinc 2 1, 0, 0, 0, 1), (56, .goto (-26), 0, 0, 0, 0), (59, .aload_n 0, 0, 0, 0, 0), (60, .iconst 0, 0, 0, 0, 0), (61, .putfield 106, 11, 12, 757, 0), (64, .aload_n 0, 0, 0, 0, 0), (65, .getfield 25, 11, 10, 755, 0), (68, .iconst 0, 0, 0, 0, 0), (69, .iaload, 0, 0, 0, 0), (70, .ireturn, 0, 0, 0, 0)]
set_option maxRecDepth 100000 in
theorem ok_X11_back : k_X11_back.all (gl_ok1 gl_mn m_X11_back) = true := by decide +kernel
def k_X11_count : List (Nat × gl_O) := [(0, .aload_n 0, 0, 0, 0, 0), (1, .iconst 0, 0, 0, 0, 0), (2, .putfield 63, 11, 0, 745, 0), (5, .iload_n 1, 0, 0, 0, 0), (44, .aload_n 0, 0, 0, 0, 0), (45, .getfield 59, 11, 1, 746, 0), (48, .ireturn, 0, 0, 0, 0), (49, .aload_n 0, 0, 0, 0, 0), (50, .getfield 66, 11, 2, 747, 0), (53, .ireturn, 0, 0, 0, 0), (54, .aload_n 0, 0, 0, 0, 0), (55, .getfield 25, 11, 10, 755, 0), (58, .iconst 0, 0, 0, 0, 0), (59, .iaload, 0, 0, 0, 0), (60, .ireturn, 0, 0, 0, 0), (61, .aload_n 0, 0, 0, 0, 0), (62, .getfield 109, 11, 15, 760, 0), (65, .ireturn, 0, 0, 0, 0), (66, .aload_n 0, 0, 0, 0, 0), (67, .getfield 73, 11, 18, 763, 0), (70, .ireturn, 0, 0, 0, 0), (71, .aload_n 0, 0, 0, 0, 0), (72, .getfield 106, 11, 12, 757, 0), (75, .ireturn, 0, 0, 0, 0), (76, .iconst (-1), 0, 0, 0, (-1)), (77, .ireturn, 0, 0, 0, 0)]
set_option maxRecDepth 100000 in
theorem ok_X11_count : k_X11_count.all (gl_ok1 gl_mn m_X11_count) = true := by decide +kernel
def k_X0_init : List (Nat × gl_O) := [(0, .aload_n 0, 0, 0, 0, 0), (1, .invokespecial 3, 3, 0, 133, 0), (4, .aload_n 0, 0, 0, 0, 0), (5, .iconst 0, 0, 0, 0, 0), (6, .putfield 9, 0, 0, 134, 0), (9, .aload_n 0, 0, 0, 0, 0), (10, .bipush 6, 0, 0, 0, 6), (12, .newarray .int, 0, 0, 0, 0), (14, .putfield 15, 0, 1, 137, 0), (17, .aload_n 0, 0, 0, 0, 0), (18, .bipush 24, 0, 0, 0, 24), (20, .newarray .int, 0, 0, 0, 0), (22, .putfield 19, 0, 2, 139, 0), (25, .aload_n 0, 0, 0, 0, 0), (26, .bipush 6, 0, 0, 0, 6), (28, .newarray .int, 0, 0, 0, 0), (30, .putfield 22, 0, 3, 140, 0), (33, .aload_n 0, 0, 0, 0, 0), (34, .bipush 6, 0, 0, 0, 6), (36, .newarray .int, 0, 0, 0, 0), (38, .putfield 25, 0, 4, 141, 0), (41, .aload_n 0, 0, 0, 0, 0), (42, .iconst 0, 0, 0, 0, 0), (43, .putfield 28, 0, 5, 142, 0), (46, .aload_n 0, 0, 0, 0, 0), (47, .bipush 6, 0, 0, 0, 6), (49, .newarray .int, 0, 0, 0, 0), (51, .putfield 31, 0, 6, 146, 0), (54, .aload_n 0, 0, 0, 0, 0), (55, .bipush 24, 0, 0, 0, 24), (57, .newarray .int, 0, 0, 0, 0), (59, .putfield 34, 0, 7, 148, 0), (62, .aload_n 0, 0, 0, 0, 0), (63, .bipush 24, 0, 0, 0, 24), (65, .newarray .int, 0, 0, 0, 0), (67, .putfield 37, 0, 8, 150, 0), (70, .return_, 0, 0, 0, 0)]
set_option maxRecDepth 100000 in
theorem ok_X0_init : k_X0_init.all (gl_ok1 gl_mn m_X0_init) = true := by decide +kernel
def k_X0_dropAll : List (Nat × gl_O) := [(0, .aload_n 0, 0, 0, 0, 0), (1, .iconst 0, 0, 0, 0, 0), (2, .putfield 9, 0, 0, 134, 0), (5, .aload_n 0, 0, 0, 0, 0), (6, .iconst 0, 0, 0, 0, 0), (7, .putfield 28, 0, 5, 142, 0), (10, .return_, 0, 0, 0, 0)]
set_option maxRecDepth 100000 in
theorem ok_X0_dropAll : k_X0_dropAll.all (gl_ok1 gl_mn m_X0_dropAll) = true := by decide +kernel
def k_X0_copyFrom : List (Nat × gl_O) := [(0, .aload_n 0, 0, 0, 0, 0), (1, .aload_n 1, 0, 0, 0, 0), (2, .getfield 9, 0, 0, 134, 0), (5, .putfield 9, 0, 0, 134, 0), (8, .aload_n 1, 0, 0, 0, 0), (9, .getfield 15, 0, 1, 137, 0), (12, .aload_n 0, 0, 0, 0, 0), (13, .getfield 15, 0, 1, 137, 0), (16, .invokestatic 40, 0, 88, 454, 0), (19, .aload_n 1, 0, 0, 0, 0), (20, .getfield 19, 0, 2, 139, 0), (23, .aload_n 0, 0, 0, 0, 0), (24, .getfield 19, 0, 2, 139, 0), (27, .invokestatic 40, 0, 88, 454, 0), (30, .aload_n 1, 0, 0, 0, 0), (31, .getfield 22, 0, 3, 140, 0), (34, .aload_n 0, 0, 0, 0, 0), (35, .getfield 22, 0, 3, 140, 0), (38, .invokestatic 40, 0, 88, 454, 0), (41, .aload_n 1, 0, 0, 0, 0), (42, .getfield 25, 0, 4, 141, 0), (45, .aload_n 0, 0, 0, 0, 0), (46, .getfield 25, 0, 4, 141, 0), (49, .invokestatic 40, 0, 88, 454, 0), (52, .aload_n 0, 0, 0, 0, 0), (53, .aload_n 1, 0, 0, 0, 0), (54, .getfield 28, 0, 5, 142, 0), (57, .putfield 28, 0, 5, 142, 0), (60, .aload_n 1, 0, 0, 0, 0), (61, .getfield 31, 0, 6, 146, 0), (64, .aload_n 0, 0, 0, 0, 0), (65, .getfield 31, 0, 6, 146, 0), (68, .invokestatic 40, 0, 88, 454, 0), (71, .aload_n 1, 0, 0, 0, 0), (72, .getfield 34, 0, 7, 148, 0), (75, .aload_n 0, 0, 0, 0, 0), (76, .getfield 34, 0, 7, 148, 0), (79, .invokestatic 40, 0, 88, 454, 0), (82, .aload_n 1, 0, 0, 0, 0), (83, .getfield 37, 0, 8, 150, 0), (86, .aload_n 0, 0, 0, 0, 0), (87, .getfield 37, 0, 8, 150, 0), (90, .invokestatic 40, 0, 88, 454, 0), (93, .return_, 0, 0, 0, 0)]
set_option maxRecDepth 100000 in
theorem ok_X0_copyFrom : k_X0_copyFrom.all (gl_ok1 gl_mn m_X0_copyFrom) = true := by decide +kernel
def k_X0_copyRow : List (Nat × gl_O) := [(0, .aload_n 0, 0, 0, 0, 0), (1, .iconst 0, 0, 0, 0, 0), (2, .aload_n 1, 0, 0, 0, 0), (3, .iconst 0, 0, 0, 0, 0), (4, .aload_n 0, 0, 0, 0, 0), (5, .arraylength, 0, 0, 0, 0), (6, .aload_n 1, 0, 0, 0, 0), (7, .arraylength, 0, 0, 0, 0), (8, .invokestatic 44, 1, 0, 457, 0), (11, .invokestatic 50, 2, 0, 460, 0), (14, .return_, 0, 0, 0, 0)]
set_option maxRecDepth 100000 in
theorem ok_X0_copyRow : k_X0_copyRow.all (gl_ok1 gl_mn m_X0_copyRow) = true := by decide +kernel
def k_X0_openCell : List (Nat × gl_O) := [(0, .aload_n 0, 0, 0, 0, 0), (1, .getfield 15, 0, 1, 137, 0), (4, .aload_n 0, 0, 0, 0, 0), (5, .getfield 9, 0, 0, 134, 0), (8, .iconst 0, 0, 0, 0, 0), (9, .iastore, 0, 0, 0, 0), (10, .aload_n 0, 0, 0, 0, 0), (11, .getfield 22, 0, 3, 140, 0), (14, .aload_n 0, 0, 0, 0, 0), (15, .getfield 9, 0, 0, 134, 0), (18, .iconst 0, 0, 0, 0, 0), (19, .iastore, 0, 0, 0, 0), (20, .aload_n 0, 0, 0, 0, 0), (21, .getfield 25, 0, 4, 141, 0), (24, .aload_n 0, 0, 0, 0, 0), (25, .getfield 9, 0, 0, 134, 0), (28, .iconst 1, 0, 0, 0, 1), (29, .iastore, 0, 0, 0, 0), (30, .aload_n 0, 0, 0, 0, 0), (31, .dup, 0, 0, 0, 0), (32, .getfield 9, 0, 0, 134, 0), (35, .iconst 1, 0, 0, 0, 1), (36, .iadd, 0, 0, 0, 0), (37, .putfield 9, 0, 0, 134, 0), (40, .return_, 0, 0, 0, 0)]
set_option maxRecDepth 100000 in
theorem ok_X0_openCell : k_X0_openCell.all (gl_ok1 gl_mn m_X0_openCell) = true := by decide +kernel
def k_X0_addStep : List (Nat × gl_O) := [(0, .aload_n 0, 0, 0, 0, 0), (1, .getfield 9, 0, 0, 134, 0), (4, .iconst 1, 0, 0, 0, 1), (5, .isub, 0, 0, 0, 0), (6, .istore_n 2, 0, 0, 0, 0), (7, .aload_n 0, 0, 0, 0, 0), (8, .getfield 19, 0, 2, 139, 0), (11, .iload_n 2, 0, 0, 0, 0), (12, .iconst 4, 0, 0, 0, 4), (13, .imul, 0, 0, 0, 0), (14, .aload_n 0, 0, 0, 0, 0), (15, .getfield 15, 0, 1, 137, 0), (18, .iload_n 2, 0, 0, 0, 0), (19, .iaload, 0, 0, 0, 0), (20, .iadd, 0, 0, 0, 0), (21, .iload_n 1, 0, 0, 0, 0), (22, .iastore, 0, 0, 0, 0), (23, .aload_n 0, 0, 0, 0, 0), (24, .getfield 15, 0, 1, 137, 0), (27, .iload_n 2, 0, 0, 0, 0), (28, .dup2, 0, 0, 0, 0), (29, .iaload, 0, 0, 0, 0), (30, .iconst 1, 0, 0, 0, 1), (31, .iadd, 0, 0, 0, 0), (32, .iastore, 0, 0, 0, 0), (33, .aload_n 0, 0, 0, 0, 0), (34, .getfield 22, 0, 3, 140, 0), (37, .iload_n 2, 0, 0, 0, 0), (38, .dup2, 0, 0, 0, 0), (39, .iaload, 0, 0, 0, 0), (40, .iload_n 1, 0, 0, 0, 0), (41, .iadd, 0, 0, 0, 0), (42, .iastore, 0, 0, 0, 0), (43, .aload_n 0, 0, 0, 0, 0), (44, .getfield 25, 0, 4, 141, 0), (47, .iload_n 2, 0, 0, 0, 0), (48, .dup2, 0, 0, 0, 0), (49, .iaload, 0, 0, 0, 0), (50, .iconst 1, 0, 0, 0, 1), (51, .aload_n 0, 0, 0, 0, 0), (52, .getfield 22, 0, 3, 140, 0), (55, .iload_n 2, 0, 0, 0, 0), (56, .iaload, 0, 0, 0, 0), (57, .ishl, 0, 0, 0, 0), (58, .ior, 0, 0, 0, 0), (59, .iastore, 0, 0, 0, 0), (60, .return_, 0, 0, 0, 0)]
set_option maxRecDepth 100000 in
theorem ok_X0_addStep : k_X0_addStep.all (gl_ok1 gl_mn m_X0_addStep) = true := by decide +kernel
def k_X0_openMode : List (Nat × gl_O) := [(0, .aload_n 0, 0, 0, 0, 0), (1, .getfield 34, 0, 7, 148, 0), (4, .aload_n 0, 0, 0, 0, 0), (5, .getfield 28, 0, 5, 142, 0), (8, .iconst 4, 0, 0, 0, 4), (9, .imul, 0, 0, 0, 0), (10, .iload_n 1, 0, 0, 0, 0), (11, .iastore, 0, 0, 0, 0), (12, .aload_n 0, 0, 0, 0, 0), (13, .getfield 37, 0, 8, 150, 0), (16, .aload_n 0, 0, 0, 0, 0), (17, .getfield 28, 0, 5, 142, 0), (20, .iconst 4, 0, 0, 0, 4), (21, .imul, 0, 0, 0, 0), (22, .iconst 0, 0, 0, 0, 0), (23, .iastore, 0, 0, 0, 0), (24, .aload_n 0, 0, 0, 0, 0), (25, .getfield 31, 0, 6, 146, 0), (28, .aload_n 0, 0, 0, 0, 0), (29, .getfield 28, 0, 5, 142, 0), (32, .iconst 1, 0, 0, 0, 1), (33, .iastore, 0, 0, 0, 0), (34, .aload_n 0, 0, 0, 0, 0), (35, .dup, 0, 0, 0, 0), (36, .getfield 28, 0, 5, 142, 0), (39, .iconst 1, 0, 0, 0, 1), (40, .iadd, 0, 0, 0, 0), (41, .putfield 28, 0, 5, 142, 0), (44, .return_, 0, 0, 0, 0)]
set_option maxRecDepth 100000 in
theorem ok_X0_openMode : k_X0_openMode.all (gl_ok1 gl_mn m_X0_openMode) = true := by decide +kernel
def k_X0_addPart : List (Nat × gl_O) := [(0, .aload_n 0, 0, 0, 0, 0), (1, .getfield 28, 0, 5, 142, 0), (4, .iconst 1, 0, 0, 0, 1), (5, .isub, 0, 0, 0, 0), (6, .istore_n 3, 0, 0, 0, 0), (7, .iload_n 3, 0, 0, 0, 0), (8, .iconst 4, 0, 0, 0, 4), (9, .imul, 0, 0, 0, 0), (10, .aload_n 0, 0, 0, 0, 0), (11, .getfield 31, 0, 6, 146, 0), (14, .iload_n 3, 0, 0, 0, 0), (15, .iaload, 0, 0, 0, 0), (16, .iadd, 0, 0, 0, 0), (17, .istore 4, 0, 0, 0, 0), (19, .aload_n 0, 0, 0, 0, 0), (20, .getfield 34, 0, 7, 148, 0), (23, .iload 4, 0, 0, 0, 0), (25, .iload_n 2, 0, 0, 0, 0), (26, .iastore, 0, 0, 0, 0), (27, .aload_n 0, 0, 0, 0, 0), (28, .getfield 37, 0, 8, 150, 0), (31, .iload 4, 0, 0, 0, 0), (33, .aload_n 0, 0, 0, 0, 0), (34, .getfield 37, 0, 8, 150, 0), (37, .iload 4, 0, 0, 0, 0), (39, .iconst 1, 0, 0, 0, 1), (40, .isub, 0, 0, 0, 0), (41, .iaload, 0, 0, 0, 0), (42, .aload_n 0, 0, 0, 0, 0), (43, .getfield 22, 0, 3, 140, 0), (46, .aload_n 0, 0, 0, 0, 0), (47, .getfield 34, 0, 7, 148, 0), (50, .iload 4, 0, 0, 0, 0), (52, .iconst 1, 0, 0, 0, 1), (53, .isub, 0, 0, 0, 0), (54, .iaload, 0, 0, 0, 0), (55, .iaload, 0, 0, 0, 0), (56, .iadd, 0, 0, 0, 0), (57, .iload_n 1, 0, 0, 0, 0), (58, .iadd, 0, 0, 0, 0), (59, .iastore, 0, 0, 0, 0), (60, .aload_n 0, 0, 0, 0, 0), (61, .getfield 31, 0, 6, 146, 0), (64, .iload_n 3, 0, 0, 0, 0), (65, .dup2, 0, 0, 0, 0), (66, .iaload, 0, 0, 0, 0), (67, .iconst 1, 0, 0, 0, 1), (68, .iadd, 0, 0, 0, 0), (69, .iastore, 0, 0, 0, 0), (70, .return_, 0, 0, 0, 0)]
set_option maxRecDepth 100000 in
theorem ok_X0_addPart : k_X0_addPart.all (gl_ok1 gl_mn m_X0_addPart) = true := by decide +kernel
def k_X0_stepAt : List (Nat × gl_O) := [(0, .aload_n 0, 0, 0, 0, 0), (1, .getfield 19, 0, 2, 139, 0), (4, .iload_n 1, 0, 0, 0, 0), (5, .iconst 4, 0, 0, 0, 4), (6, .imul, 0, 0, 0, 0), (7, .iload_n 2, 0, 0, 0, 0), (8, .iadd, 0, 0, 0, 0), (9, .iaload, 0, 0, 0, 0), (10, .ireturn, 0, 0, 0, 0)]
set_option maxRecDepth 100000 in
theorem ok_X0_stepAt : k_X0_stepAt.all (gl_ok1 gl_mn m_X0_stepAt) = true := by decide +kernel
def k_X0_scaleCount : List (Nat × gl_O) := [(0, .aload_n 0, 0, 0, 0, 0), (1, .getfield 28, 0, 5, 142, 0), (4, .bipush 24, 0, 0, 0, 24), (6, .imul, 0, 0, 0, 0), (7, .ireturn, 0, 0, 0, 0)]
set_option maxRecDepth 100000 in
theorem ok_X0_scaleCount : k_X0_scaleCount.all (gl_ok1 gl_mn m_X0_scaleCount) = true := by decide +kernel
def k_X0_isScale : List (Nat × gl_O) := [(0, .iload_n 1, 0, 0, 0, 0), (1, .ifCond .lt 15, 0, 0, 0, 0), (4, .iload_n 1, 0, 0, 0, 0), (5, .aload_n 0, 0, 0, 0, 0), (6, .invokevirtual 56, 0, 94, 489, 0), (9, .if_icmp .ge 7, 0, 0, 0, 0), (12, .iconst 1, 0, 0, 0, 1), (13, .goto 4, 0, 0, 0, 0), (16, .iconst 0, 0, 0, 0, 0), (17, .ireturn, 0, 0, 0, 0)]
set_option maxRecDepth 100000 in
theorem ok_X0_isScale : k_X0_isScale.all (gl_ok1 gl_mn m_X0_isScale) = true := by decide +kernel
def k_X0_partsOf : List (Nat × gl_O) := [(0, .aload_n 0, 0, 0, 0, 0), (1, .getfield 31, 0, 6, 146, 0), (4, .iload_n 1, 0, 0, 0, 0), (5, .bipush 24, 0, 0, 0, 24), (7, .idiv, 0, 0, 0, 0), (8, .iaload, 0, 0, 0, 0), (9, .ireturn, 0, 0, 0, 0)]
set_option maxRecDepth 100000 in
theorem ok_X0_partsOf : k_X0_partsOf.all (gl_ok1 gl_mn m_X0_partsOf) = true := by decide +kernel
def k_X0_cellAt : List (Nat × gl_O) := [(0, .aload_n 0, 0, 0, 0, 0), (1, .getfield 34, 0, 7, 148, 0), (4, .iload_n 1, 0, 0, 0, 0), (5, .bipush 24, 0, 0, 0, 24), (7, .idiv, 0, 0, 0, 0), (8, .iconst 4, 0, 0, 0, 4), (9, .imul, 0, 0, 0, 0), (10, .iload_n 2, 0, 0, 0, 0), (11, .iadd, 0, 0, 0, 0), (12, .iaload, 0, 0, 0, 0), (13, .ireturn, 0, 0, 0, 0)]
set_option maxRecDepth 100000 in
theorem ok_X0_cellAt : k_X0_cellAt.all (gl_ok1 gl_mn m_X0_cellAt) = true := by decide +kernel
def k_X0_pitchAt : List (Nat × gl_O) := [(0, .iload_n 1, 0, 0, 0, 0), (1, .bipush 24, 0, 0, 0, 24), (3, .irem, 0, 0, 0, 0), (4, .aload_n 0, 0, 0, 0, 0), (5, .getfield 37, 0, 8, 150, 0), (8, .iload_n 1, 0, 0, 0, 0), (9, .bipush 24, 0, 0, 0, 24), (11, .idiv, 0, 0, 0, 0), (12, .iconst 4, 0, 0, 0, 4), (13, .imul, 0, 0, 0, 0), (14, .iload_n 2, 0, 0, 0, 0), (15, .iadd, 0, 0, 0, 0), (16, .iaload, 0, 0, 0, 0), (17, .iadd, 0, 0, 0, 0), (18, .ireturn, 0, 0, 0, 0)]
set_option maxRecDepth 100000 in
theorem ok_X0_pitchAt : k_X0_pitchAt.all (gl_ok1 gl_mn m_X0_pitchAt) = true := by decide +kernel
def k_X0_placedCell : List (Nat × gl_O) := [(0, .aload_n 0, 0, 0, 0, 0), (1, .iload_n 1, 0, 0, 0, 0), (2, .iload_n 2, 0, 0, 0, 0), (3, .invokevirtual 60, 0, 97, 569, 0), (6, .bipush 81, 0, 0, 0, 81), (8, .imul, 0, 0, 0, 0), (9, .aload_n 0, 0, 0, 0, 0), (10, .iload_n 1, 0, 0, 0, 0), (11, .iload_n 2, 0, 0, 0, 0), (12, .invokevirtual 63, 0, 98, 568, 0), (15, .iadd, 0, 0, 0, 0), (16, .ireturn, 0, 0, 0, 0)]
set_option maxRecDepth 100000 in
theorem ok_X0_placedCell : k_X0_placedCell.all (gl_ok1 gl_mn m_X0_placedCell) = true := by decide +kernel
def k_X0_isIn : List (Nat × gl_O) := [(0, .iload_n 3, 0, 0, 0, 0), (1, .aload_n 0, 0, 0, 0, 0), (2, .iload_n 1, 0, 0, 0, 0), (3, .iload_n 2, 0, 0, 0, 0), (4, .invokevirtual 63, 0, 98, 568, 0), (7, .isub, 0, 0, 0, 0), (8, .istore 4, 0, 0, 0, 0), (10, .aload_n 0, 0, 0, 0, 0), (11, .iload_n 1, 0, 0, 0, 0), (12, .iload_n 2, 0, 0, 0, 0), (13, .invokevirtual 60, 0, 97, 569, 0), (16, .istore 5, 0, 0, 0, 0), (18, .iload 4, 0, 0, 0, 0), (20, .ifCond .lt 35, 0, 0, 0, 0), (23, .iload 4, 0, 0, 0, 0), (25, .aload_n 0, 0, 0, 0, 0), (26, .getfield 22, 0, 3, 140, 0), (29, .iload 5, 0, 0, 0, 0), (31, .iaload, 0, 0, 0, 0), (32, .if_icmp .gt 23, 0, 0, 0, 0), (35, .aload_n 0, 0, 0, 0, 0), (36, .getfield 25, 0, 4, 141, 0), (39, .iload 5, 0, 0, 0, 0), (41, .iaload, 0, 0, 0, 0), (42, .iload 4, 0, 0, 0, 0), (44, .ishr, 0, 0, 0, 0), (45, .iconst 1, 0, 0, 0, 1), (46, .iand, 0, 0, 0, 0), (47, .iconst 1, 0, 0, 0, 1), (48, .if_icmp .ne 7, 0, 0, 0, 0), (51, .iconst 1, 0, 0, 0, 1), (52, .goto 4, 0, 0, 0, 0), (55, .iconst 0, 0, 0, 0, 0), (56, .ireturn, 0, 0, 0, 0)]
set_option maxRecDepth 100000 in
theorem ok_X0_isIn : k_X0_isIn.all (gl_ok1 gl_mn m_X0_isIn) = true := by decide +kernel
def k_X0_partsWith : List (Nat × gl_O) := [(0, .iconst 0, 0, 0, 0, 0), (1, .istore_n 3, 0, 0, 0, 0), (2, .iconst 0, 0, 0, 0, 0), (3, .istore 4, 0, 0, 0, 0), (5, .iload 4, 0, 0, 0, 0), (7, .aload_n 0, 0, 0, 0, 0), (8, .iload_n 1, 0, 0, 0, 0), (9, .invokevirtual 66, 0, 96, 564, 0), (12, .if_icmp .ge 23, 0, 0, 0, 0), (15, .aload_n 0, 0, 0, 0, 0), (16, .iload_n 1, 0, 0, 0, 0), (17, .iload 4, 0, 0, 0, 0), (19, .iload_n 2, 0, 0, 0, 0), (20, .invokevirtual 70, 0, 100, 565, 0), (23, .ifCond .eq 6, 0, 0, 0, 0), (26, .iinc 3 1, 0, 0, 0, 1), (29, .iinc 4 1, 0, 0, 0, 1), (32, .goto (-27), 0, 0, 0, 0), (35, .iload_n 3, 0, 0, 0, 0), (36, .ireturn, 0, 0, 0, 0)]
set_option maxRecDepth 100000 in
theorem ok_X0_partsWith : k_X0_partsWith.all (gl_ok1 gl_mn m_X0_partsWith) = true := by decide +kernel
def k_X0_samePart : List (Nat × gl_O) := [(0, .aload_n 0, 0, 0, 0, 0), (1, .iload_n 1, 0, 0, 0, 0), (2, .iload_n 2, 0, 0, 0, 0), (3, .invokevirtual 74, 0, 99, 577, 0), (6, .istore 4, 0, 0, 0, 0), (8, .iconst 0, 0, 0, 0, 0), (9, .istore 5, 0, 0, 0, 0), (11, .iload 5, 0, 0, 0, 0), (13, .aload_n 0, 0, 0, 0, 0), (14, .iload_n 3, 0, 0, 0, 0), (15, .invokevirtual 66, 0, 96, 564, 0), (18, .if_icmp .ge 24, 0, 0, 0, 0), (21, .aload_n 0, 0, 0, 0, 0), (22, .iload_n 3, 0, 0, 0, 0), (23, .iload 5, 0, 0, 0, 0), (25, .invokevirtual 74, 0, 99, 577, 0), (28, .iload 4, 0, 0, 0, 0), (30, .if_icmp .ne 6, 0, 0, 0, 0), (33, .iload 5, 0, 0, 0, 0), (35, .ireturn, 0, 0, 0, 0), (36, .iinc 5 1, 0, 0, 0, 1), (39, .goto (-28), 0, 0, 0, 0), (42, .iconst (-1), 0, 0, 0, (-1)), (43, .ireturn, 0, 0, 0, 0)]
set_option maxRecDepth 100000 in
theorem ok_X0_samePart : k_X0_samePart.all (gl_ok1 gl_mn m_X0_samePart) = true := by decide +kernel
def k_X1_init : List (Nat × gl_O) := [(0, .aload_n 0, 0, 0, 0, 0), (1, .invokespecial 3, 3, 0, 296, 0), (4, .aload_n 0, 0, 0, 0, 0), (5, .sipush 9216, 0, 0, 0, 9216), (8, .newarray .int, 0, 0, 0, 0), (10, .putfield 9, 1, 2, 319, 0), (13, .aload_n 0, 0, 0, 0, 0), (14, .sipush 486, 0, 0, 0, 486), (17, .newarray .int, 0, 0, 0, 0), (19, .putfield 15, 1, 3, 320, 0), (22, .aload_n 0, 0, 0, 0, 0), (23, .bipush 16, 0, 0, 0, 16), (25, .newarray .int, 0, 0, 0, 0), (27, .putfield 18, 1, 5, 322, 0), (30, .aload_n 0, 0, 0, 0, 0), (31, .iconst 0, 0, 0, 0, 0), (32, .putfield 21, 1, 6, 324, 0), (35, .aload_n 0, 0, 0, 0, 0), (36, .iconst 0, 0, 0, 0, 0), (37, .putfield 25, 1, 7, 326, 0), (40, .aload_n 0, 0, 0, 0, 0), (41, .iconst 0, 0, 0, 0, 0), (42, .putfield 29, 1, 8, 328, 0), (45, .aload_n 0, 0, 0, 0, 0), (46, .iconst 0, 0, 0, 0, 0), (47, .putfield 32, 1, 9, 330, 0), (50, .aload_n 0, 0, 0, 0, 0), (51, .iconst (-1), 0, 0, 0, (-1)), (52, .putfield 35, 1, 10, 332, 0), (55, .aload_n 0, 0, 0, 0, 0), (56, .aload_n 1, 0, 0, 0, 0), (57, .putfield 38, 1, 0, 317, 0), (60, .aload_n 0, 0, 0, 0, 0), (61, .aload_n 2, 0, 0, 0, 0), (62, .putfield 42, 1, 1, 318, 0), (65, .aload_n 0, 0, 0, 0, 0), (66, .new 46, 3, 0, 297, 0), (69, .dup, 0, 0, 0, 0), (70, .aload_n 1, 0, 0, 0, 0), (71, .aload_n 2, 0, 0, 0, 0), (72, .invokespecial 48, 0, 118, 299, 0), (75, .putfield 51, 1, 4, 321, 0), (78, .return_, 0, 0, 0, 0)]
set_option maxRecDepth 100000 in
theorem ok_X1_init : k_X1_init.all (gl_ok1 gl_mn m_X1_init) = true := by decide +kernel
def k_X1_refresh : List (Nat × gl_O) := [(0, .aload_n 0, 0, 0, 0, 0), (1, .getfield 35, 1, 10, 332, 0), (4, .aload_n 0, 0, 0, 0, 0), (5, .getfield 42, 1, 1, 318, 0), (8, .getfield 55, 8, 2, 207, 0), (11, .if_icmp .ne 4, 0, 0, 0, 0), (14, .return_, 0, 0, 0, 0), (15, .aload_n 0, 0, 0, 0, 0), (16, .aload_n 0, 0, 0, 0, 0), (17, .getfield 42, 1, 1, 318, 0), (20, .getfield 55, 8, 2, 207, 0), (23, .putfield 35, 1, 10, 332, 0), (26, .aload_n 0, 0, 0, 0, 0), (27, .getfield 42, 1, 1, 318, 0), (30, .getfield 60, 8, 1, 203, 0), (33, .iconst 1, 0, 0, 0, 1), (34, .isub, 0, 0, 0, 0), (35, .istore_n 1, 0, 0, 0, 0), (36, .iload_n 1, 0, 0, 0, 0), (37, .ifCond .lt 21, 0, 0, 0, 0), (40, .aload_n 0, 0, 0, 0, 0), (41, .iload_n 1, 0, 0, 0, 0), (42, .iconst 1, 0, 0, 0, 1), (43, .iadd, 0, 0, 0, 0), (44, .invokevirtual 63, 0, 106, 623, 0), (47, .aload_n 0, 0, 0, 0, 0), (48, .iload_n 1, 0, 0, 0, 0), (49, .invokevirtual 67, 0, 107, 638, 0), (52, .iinc 1 (-1), 0, 0, 0, (-1)), (55, .goto (-19), 0, 0, 0, 0), (58, .aload_n 0, 0, 0, 0, 0), (59, .invokevirtual 70, 0, 109, 645, 0), (62, .aload_n 0, 0, 0, 0, 0), (63, .aload_n 0, 0, 0, 0, 0), (64, .getfield 21, 1, 6, 324, 0), (67, .ifCond .eq 13, 0, 0, 0, 0), (70, .aload_n 0, 0, 0, 0, 0), (71, .getfield 42, 1, 1, 318, 0), (74, .getfield 60, 8, 1, 203, 0), (77, .goto 10, 0, 0, 0, 0), (80, .aload_n 0, 0, 0, 0, 0), (81, .getfield 51, 1, 4, 321, 0), (84, .invokevirtual 73, 0, 119, 667, 0), (87, .putfield 32, 1, 9, 330, 0), (90, .return_, 0, 0, 0, 0)]
set_option maxRecDepth 100000 in
theorem ok_X1_refresh : k_X1_refresh.all (gl_ok1 gl_mn m_X1_refresh) = true := by decide +kernel
def k_X1_restAt : List (Nat × gl_O) := [(0, .aload_n 0, 0, 0, 0, 0), (1, .getfield 9, 1, 2, 319, 0), (4, .iload_n 1, 0, 0, 0, 0), (5, .sipush 576, 0, 0, 0, 576), (8, .imul, 0, 0, 0, 0), (9, .iload_n 2, 0, 0, 0, 0), (10, .iadd, 0, 0, 0, 0), (11, .iaload, 0, 0, 0, 0), (12, .ireturn, 0, 0, 0, 0)]
set_option maxRecDepth 100000 in
theorem ok_X1_restAt : k_X1_restAt.all (gl_ok1 gl_mn m_X1_restAt) = true := by decide +kernel
def k_X1_measureEntries : List (Nat × gl_O) := [(0, .iload_n 1, 0, 0, 0, 0), (1, .aload_n 0, 0, 0, 0, 0), (2, .getfield 42, 1, 1, 318, 0), (5, .getfield 60, 8, 1, 203, 0), (8, .if_icmp .lt 4, 0, 0, 0, 0), (11, .return_, 0, 0, 0, 0), (12, .aload_n 0, 0, 0, 0, 0), (13, .getfield 15, 1, 3, 320, 0), (16, .ldc 77, 0, 0, 626, 1000000), (18, .invokestatic 78, 0, 161, 627, 0), (21, .iconst 0, 0, 0, 0, 0), (22, .istore_n 2, 0, 0, 0, 0), (23, .iload_n 2, 0, 0, 0, 0), (24, .aload_n 0, 0, 0, 0, 0), (25, .getfield 38, 1, 0, 317, 0), (28, .invokevirtual 84, 0, 94, 628, 0), (31, .if_icmp .ge 67, 0, 0, 0, 0), (34, .iconst 0, 0, 0, 0, 0), (35, .istore_n 3, 0, 0, 0, 0), (36, .iload_n 3, 0, 0, 0, 0), (37, .aload_n 0, 0, 0, 0, 0), (38, .getfield 38, 1, 0, 317, 0), (41, .iload_n 2, 0, 0, 0, 0), (42, .invokevirtual 89, 0, 96, 629, 0), (45, .if_icmp .ge 47, 0, 0, 0, 0), (48, .aload_n 0, 0, 0, 0, 0), (49, .getfield 38, 1, 0, 317, 0), (52, .iload_n 2, 0, 0, 0, 0), (53, .iload_n 3, 0, 0, 0, 0), (54, .invokevirtual 93, 0, 99, 630, 0), (57, .istore 4, 0, 0, 0, 0), (59, .aload_n 0, 0, 0, 0, 0), (60, .getfield 15, 1, 3, 320, 0), (63, .iload 4, 0, 0, 0, 0), (65, .aload_n 0, 0, 0, 0, 0), (66, .getfield 15, 1, 3, 320, 0), (69, .iload 4, 0, 0, 0, 0), (71, .iaload, 0, 0, 0, 0), (72, .aload_n 0, 0, 0, 0, 0), (73, .iload_n 1, 0, 0, 0, 0), (74, .iload_n 2, 0, 0, 0, 0), (75, .iload_n 3, 0, 0, 0, 0), (76, .invokestatic 97, 0, 29, 631, 0), (79, .invokevirtual 100, 0, 105, 634, 0), (82, .invokestatic 103, 1, 0, 637, 0), (85, .iastore, 0, 0, 0, 0), (86, .iinc 3 1, 0, 0, 0, 1), (89, .goto (-53), 0, 0, 0, 0), (92, .iinc 2 1, 0, 0, 0, 1), (95, .goto (-72), 0, 0, 0, 0), (98, .return_, 0, 0, 0, 0)]
set_option maxRecDepth 100000 in
theorem ok_X1_measureEntries : k_X1_measureEntries.all (gl_ok1 gl_mn m_X1_measureEntries) = true := by decide +kernel
def k_X1_measureRests : List (Nat × gl_O) := [(0, .aload_n 0, 0, 0, 0, 0), (1, .getfield 42, 1, 1, 318, 0), (4, .getfield 108, 8, 0, 199, 0), (7, .iload_n 1, 0, 0, 0, 0), (8, .iaload, 0, 0, 0, 0), (9, .istore_n 2, 0, 0, 0, 0), (10, .iconst 0, 0, 0, 0, 0), (11, .istore_n 3, 0, 0, 0, 0), (12, .iload_n 3, 0, 0, 0, 0), (13, .aload_n 0, 0, 0, 0, 0), (14, .getfield 38, 1, 0, 317, 0), (17, .invokevirtual 84, 0, 94, 628, 0), (20, .if_icmp .ge 93, 0, 0, 0, 0), (23, .iconst 0, 0, 0, 0, 0), (24, .istore 4, 0, 0, 0, 0), (26, .iload 4, 0, 0, 0, 0), (28, .iconst 4, 0, 0, 0, 4), (29, .if_icmp .ge 78, 0, 0, 0, 0), (32, .iload 4, 0, 0, 0, 0), (34, .aload_n 0, 0, 0, 0, 0), (35, .getfield 38, 1, 0, 317, 0), (38, .iload_n 3, 0, 0, 0, 0), (39, .invokevirtual 89, 0, 96, 629, 0), (42, .if_icmp .ge 21, 0, 0, 0, 0), (45, .aload_n 0, 0, 0, 0, 0), (46, .getfield 38, 1, 0, 317, 0), (49, .iload_n 3, 0, 0, 0, 0), (50, .iload 4, 0, 0, 0, 0), (52, .iload_n 2, 0, 0, 0, 0), (53, .invokevirtual 111, 0, 100, 641, 0), (56, .ifCond .eq 7, 0, 0, 0, 0), (59, .iconst 1, 0, 0, 0, 1), (60, .goto 4, 0, 0, 0, 0), (63, .iconst 0, 0, 0, 0, 0), (64, .istore 5, 0, 0, 0, 0), (66, .aload_n 0, 0, 0, 0, 0), (67, .getfield 9, 1, 2, 319, 0), (70, .iload_n 1, 0, 0, 0, 0), (71, .sipush 576, 0, 0, 0, 576), (74, .imul, 0, 0, 0, 0), (75, .iload_n 3, 0, 0, 0, 0), (76, .iload 4, 0, 0, 0, 0), (78, .invokestatic 97, 0, 29, 631, 0), (81, .iadd, 0, 0, 0, 0), (82, .iload 5, 0, 0, 0, 0), (84, .ifCond .eq 14, 0, 0, 0, 0), (87, .aload_n 0, 0, 0, 0, 0), (88, .iload_n 1, 0, 0, 0, 0), (89, .iload_n 3, 0, 0, 0, 0), (90, .iload 4, 0, 0, 0, 0), (92, .invokevirtual 115, 0, 108, 642, 0), (95, .goto 5, 0, 0, 0, 0), (98, .ldc 77, 0, 0, 626, 1000000), (100, .iastore, 0, 0, 0, 0), (101, .iinc 4 1, 0, 0, 0, 1), (104, .goto (-78), 0, 0, 0, 0), (107, .iinc 3 1, 0, 0, 0, 1), (110, .goto (-98), 0, 0, 0, 0), (113, .return_, 0, 0, 0, 0)]
set_option maxRecDepth 100000 in
theorem ok_X1_measureRests : k_X1_measureRests.all (gl_ok1 gl_mn m_X1_measureRests) = true := by decide +kernel
end
section
def k_X1_leastRest : List (Nat × gl_O) := [(0, .iload_n 1, 0, 0, 0, 0), (1, .iconst 1, 0, 0, 0, 1), (2, .iadd, 0, 0, 0, 0), (3, .aload_n 0, 0, 0, 0, 0), (4, .getfield 42, 1, 1, 318, 0), (7, .getfield 60, 8, 1, 203, 0), (10, .if_icmp .lt 5, 0, 0, 0, 0), (13, .iconst 0, 0, 0, 0, 0), (14, .ireturn, 0, 0, 0, 0), (15, .ldc 77, 0, 0, 626, 1000000), (17, .istore 4, 0, 0, 0, 0), (19, .iconst 0, 0, 0, 0, 0), (20, .istore 5, 0, 0, 0, 0), (22, .iload 5, 0, 0, 0, 0), (24, .aload_n 0, 0, 0, 0, 0), (25, .getfield 38, 1, 0, 317, 0), (28, .iload_n 2, 0, 0, 0, 0), (29, .invokevirtual 89, 0, 96, 629, 0), (32, .if_icmp .ge 74, 0, 0, 0, 0), (35, .aload_n 0, 0, 0, 0, 0), (36, .iload_n 1, 0, 0, 0, 0), (37, .iconst 1, 0, 0, 0, 1), (38, .iadd, 0, 0, 0, 0), (39, .iload_n 2, 0, 0, 0, 0), (40, .iload 5, 0, 0, 0, 0), (42, .invokestatic 97, 0, 29, 631, 0), (45, .invokevirtual 100, 0, 105, 634, 0), (48, .istore 6, 0, 0, 0, 0), (50, .aload_n 0, 0, 0, 0, 0), (51, .getfield 15, 1, 3, 320, 0), (54, .aload_n 0, 0, 0, 0, 0), (55, .getfield 38, 1, 0, 317, 0), (58, .iload_n 2, 0, 0, 0, 0), (59, .iload 5, 0, 0, 0, 0), (61, .invokevirtual 93, 0, 99, 630, 0), (64, .iaload, 0, 0, 0, 0), (65, .bipush 10, 0, 0, 0, 10), (67, .iadd, 0, 0, 0, 0), (68, .istore 7, 0, 0, 0, 0), (70, .iload 5, 0, 0, 0, 0), (72, .iload_n 3, 0, 0, 0, 0), (73, .if_icmp .ne 7, 0, 0, 0, 0), (76, .iconst 0, 0, 0, 0, 0), (77, .goto 4, 0, 0, 0, 0), (80, .iconst 1, 0, 0, 0, 1), (81, .istore 8, 0, 0, 0, 0), (83, .iload 4, 0, 0, 0, 0), (85, .iload 6, 0, 0, 0, 0), (87, .iload 7, 0, 0, 0, 0), (89, .invokestatic 103, 1, 0, 637, 0), (92, .iload 8, 0, 0, 0, 0), (94, .iadd, 0, 0, 0, 0), (95, .invokestatic 103, 1, 0, 637, 0), (98, .istore 4, 0, 0, 0, 0), (100, .iinc 5 1, 0, 0, 0, 1), (103, .goto (-81), 0, 0, 0, 0), (106, .iload 4, 0, 0, 0, 0), (108, .ireturn, 0, 0, 0, 0)]
set_option maxRecDepth 100000 in
theorem ok_X1_leastRest : k_X1_leastRest.all (gl_ok1 gl_mn m_X1_leastRest) = true := by decide +kernel
def k_X1_choose : List (Nat × gl_O) := [(0, .aload_n 0, 0, 0, 0, 0), (1, .iconst 0, 0, 0, 0, 0), (2, .putfield 25, 1, 7, 326, 0), (5, .aload_n 0, 0, 0, 0, 0), (6, .iconst 0, 0, 0, 0, 0), (7, .putfield 29, 1, 8, 328, 0), (10, .aload_n 0, 0, 0, 0, 0), (11, .aload_n 0, 0, 0, 0, 0), (12, .getfield 42, 1, 1, 318, 0), (15, .getfield 60, 8, 1, 203, 0), (18, .ifCond .ne 7, 0, 0, 0, 0), (21, .iconst 1, 0, 0, 0, 1), (22, .goto 4, 0, 0, 0, 0), (25, .iconst 0, 0, 0, 0, 0), (26, .putfield 21, 1, 6, 324, 0), (29, .aload_n 0, 0, 0, 0, 0), (30, .getfield 21, 1, 6, 324, 0), (33, .ifCond .eq 4, 0, 0, 0, 0), (36, .return_, 0, 0, 0, 0), (37, .aload_n 0, 0, 0, 0, 0), (38, .invokevirtual 119, 0, 110, 648, 0), (41, .istore_n 1, 0, 0, 0, 0), (42, .aload_n 0, 0, 0, 0, 0), (43, .iload_n 1, 0, 0, 0, 0), (44, .iconst (-1), 0, 0, 0, (-1)), (45, .if_icmp .eq 7, 0, 0, 0, 0), (48, .iconst 1, 0, 0, 0, 1), (49, .goto 4, 0, 0, 0, 0), (52, .iconst 0, 0, 0, 0, 0), (53, .putfield 21, 1, 6, 324, 0), (56, .aload_n 0, 0, 0, 0, 0), (57, .getfield 21, 1, 6, 324, 0), (60, .ifCond .ne 4, 0, 0, 0, 0), (63, .return_, 0, 0, 0, 0), (64, .aload_n 0, 0, 0, 0, 0), (65, .getfield 18, 1, 5, 322, 0), (68, .iconst 0, 0, 0, 0, 0), (69, .iload_n 1, 0, 0, 0, 0), (70, .iastore, 0, 0, 0, 0), (71, .iconst 1, 0, 0, 0, 1), (72, .istore_n 2, 0, 0, 0, 0), (73, .iload_n 2, 0, 0, 0, 0), (74, .aload_n 0, 0, 0, 0, 0), (75, .getfield 42, 1, 1, 318, 0), (78, .getfield 60, 8, 1, 203, 0), (81, .if_icmp .ge 50, 0, 0, 0, 0), (84, .aload_n 0, 0, 0, 0, 0), (85, .getfield 18, 1, 5, 322, 0), (88, .iload_n 2, 0, 0, 0, 0), (89, .aload_n 0, 0, 0, 0, 0), (90, .iload_n 2, 0, 0, 0, 0), (91, .aload_n 0, 0, 0, 0, 0), (92, .getfield 18, 1, 5, 322, 0), (95, .iload_n 2, 0, 0, 0, 0), (96, .iconst 1, 0, 0, 0, 1), (97, .isub, 0, 0, 0, 0), (98, .iaload, 0, 0, 0, 0), (99, .invokevirtual 122, 0, 111, 651, 0), (102, .iastore, 0, 0, 0, 0), (103, .aload_n 0, 0, 0, 0, 0), (104, .aload_n 0, 0, 0, 0, 0), (105, .aload_n 0, 0, 0, 0, 0), (106, .getfield 18, 1, 5, 322, 0), (109, .iload_n 2, 0, 0, 0, 0), (110, .iconst 1, 0, 0, 0, 1), (111, .isub, 0, 0, 0, 0), (112, .iaload, 0, 0, 0, 0), (113, .aload_n 0, 0, 0, 0, 0), (114, .getfield 18, 1, 5, 322, 0), (117, .iload_n 2, 0, 0, 0, 0), (118, .iaload, 0, 0, 0, 0), (119, .invokevirtual 125, 0, 112, 654, 0), (122, .invokevirtual 128, 0, 113, 664, 0), (125, .iinc 2 1, 0, 0, 0, 1), (128, .goto (-55), 0, 0, 0, 0), (131, .return_, 0, 0, 0, 0)]
set_option maxRecDepth 100000 in
theorem ok_X1_choose : k_X1_choose.all (gl_ok1 gl_mn m_X1_choose) = true := by decide +kernel
def k_X1_firstSpot : List (Nat × gl_O) := [(0, .iconst (-1), 0, 0, 0, (-1)), (1, .istore_n 1, 0, 0, 0, 0), (2, .ldc 77, 0, 0, 626, 1000000), (4, .istore_n 2, 0, 0, 0, 0), (5, .iconst 0, 0, 0, 0, 0), (6, .istore_n 3, 0, 0, 0, 0), (7, .iload_n 3, 0, 0, 0, 0), (8, .aload_n 0, 0, 0, 0, 0), (9, .getfield 38, 1, 0, 317, 0), (12, .invokevirtual 84, 0, 94, 628, 0), (15, .iconst 0, 0, 0, 0, 0), (16, .invokestatic 97, 0, 29, 631, 0), (19, .if_icmp .ge 28, 0, 0, 0, 0), (22, .aload_n 0, 0, 0, 0, 0), (23, .iconst 0, 0, 0, 0, 0), (24, .iload_n 3, 0, 0, 0, 0), (25, .invokevirtual 100, 0, 105, 634, 0), (28, .iload_n 2, 0, 0, 0, 0), (29, .if_icmp .ge 12, 0, 0, 0, 0), (32, .aload_n 0, 0, 0, 0, 0), (33, .iconst 0, 0, 0, 0, 0), (34, .iload_n 3, 0, 0, 0, 0), (35, .invokevirtual 100, 0, 105, 634, 0), (38, .istore_n 2, 0, 0, 0, 0), (39, .iload_n 3, 0, 0, 0, 0), (40, .istore_n 1, 0, 0, 0, 0), (41, .iinc 3 1, 0, 0, 0, 1), (44, .goto (-37), 0, 0, 0, 0), (47, .iload_n 1, 0, 0, 0, 0), (48, .ireturn, 0, 0, 0, 0)]
set_option maxRecDepth 100000 in
theorem ok_X1_firstSpot : k_X1_firstSpot.all (gl_ok1 gl_mn m_X1_firstSpot) = true := by decide +kernel
def k_X1_nextSpot : List (Nat × gl_O) := [(0, .aload_n 0, 0, 0, 0, 0), (1, .iload_n 1, 0, 0, 0, 0), (2, .iconst 1, 0, 0, 0, 1), (3, .isub, 0, 0, 0, 0), (4, .iload_n 2, 0, 0, 0, 0), (5, .invokevirtual 100, 0, 105, 634, 0), (8, .istore_n 3, 0, 0, 0, 0), (9, .iconst 0, 0, 0, 0, 0), (10, .istore 4, 0, 0, 0, 0), (12, .iload 4, 0, 0, 0, 0), (14, .aload_n 0, 0, 0, 0, 0), (15, .getfield 38, 1, 0, 317, 0), (18, .invokevirtual 84, 0, 94, 628, 0), (21, .iconst 0, 0, 0, 0, 0), (22, .invokestatic 97, 0, 29, 631, 0), (25, .if_icmp .ge 41, 0, 0, 0, 0), (28, .aload_n 0, 0, 0, 0, 0), (29, .iload_n 1, 0, 0, 0, 0), (30, .iload 4, 0, 0, 0, 0), (32, .invokevirtual 100, 0, 105, 634, 0), (35, .istore 5, 0, 0, 0, 0), (37, .iload 5, 0, 0, 0, 0), (39, .iload_n 3, 0, 0, 0, 0), (40, .if_icmp .gt 20, 0, 0, 0, 0), (43, .iload 5, 0, 0, 0, 0), (45, .aload_n 0, 0, 0, 0, 0), (46, .iload_n 2, 0, 0, 0, 0), (47, .iload 4, 0, 0, 0, 0), (49, .invokevirtual 125, 0, 112, 654, 0), (52, .iadd, 0, 0, 0, 0), (53, .iload_n 3, 0, 0, 0, 0), (54, .if_icmp .ne 6, 0, 0, 0, 0), (57, .iload 4, 0, 0, 0, 0), (59, .ireturn, 0, 0, 0, 0), (60, .iinc 4 1, 0, 0, 0, 1), (63, .goto (-51), 0, 0, 0, 0), (66, .iload_n 2, 0, 0, 0, 0), (67, .ireturn, 0, 0, 0, 0)]
set_option maxRecDepth 100000 in
theorem ok_X1_nextSpot : k_X1_nextSpot.all (gl_ok1 gl_mn m_X1_nextSpot) = true := by decide +kernel
def k_X1_changeCost : List (Nat × gl_O) := [(0, .iload_n 1, 0, 0, 0, 0), (1, .invokestatic 131, 0, 30, 657, 0), (4, .istore_n 3, 0, 0, 0, 0), (5, .iload_n 2, 0, 0, 0, 0), (6, .invokestatic 131, 0, 30, 657, 0), (9, .istore 4, 0, 0, 0, 0), (11, .iload_n 3, 0, 0, 0, 0), (12, .iload 4, 0, 0, 0, 0), (14, .if_icmp .ne 14, 0, 0, 0, 0), (17, .iload_n 1, 0, 0, 0, 0), (18, .iload_n 2, 0, 0, 0, 0), (19, .if_icmp .ne 7, 0, 0, 0, 0), (22, .iconst 0, 0, 0, 0, 0), (23, .goto 4, 0, 0, 0, 0), (26, .iconst 1, 0, 0, 0, 1), (27, .ireturn, 0, 0, 0, 0), (28, .aload_n 0, 0, 0, 0, 0), (29, .getfield 38, 1, 0, 317, 0), (32, .iload 4, 0, 0, 0, 0), (34, .iload_n 2, 0, 0, 0, 0), (35, .invokestatic 134, 0, 31, 660, 0), (38, .iload_n 3, 0, 0, 0, 0), (39, .invokevirtual 137, 0, 102, 663, 0), (42, .istore 5, 0, 0, 0, 0), (44, .iload 5, 0, 0, 0, 0), (46, .iconst (-1), 0, 0, 0, (-1)), (47, .if_icmp .ne 6, 0, 0, 0, 0), (50, .ldc 77, 0, 0, 626, 1000000), (52, .ireturn, 0, 0, 0, 0), (53, .iload 5, 0, 0, 0, 0), (55, .iload_n 1, 0, 0, 0, 0), (56, .invokestatic 134, 0, 31, 660, 0), (59, .if_icmp .ne 8, 0, 0, 0, 0), (62, .bipush 10, 0, 0, 0, 10), (64, .goto 5, 0, 0, 0, 0), (67, .bipush 11, 0, 0, 0, 11), (69, .ireturn, 0, 0, 0, 0)]
set_option maxRecDepth 100000 in
theorem ok_X1_changeCost : k_X1_changeCost.all (gl_ok1 gl_mn m_X1_changeCost) = true := by decide +kernel
def k_X1_countChange : List (Nat × gl_O) := [(0, .aload_n 0, 0, 0, 0, 0), (1, .dup, 0, 0, 0, 0), (2, .getfield 25, 1, 7, 326, 0), (5, .iload_n 1, 0, 0, 0, 0), (6, .bipush 10, 0, 0, 0, 10), (8, .idiv, 0, 0, 0, 0), (9, .iadd, 0, 0, 0, 0), (10, .putfield 25, 1, 7, 326, 0), (13, .aload_n 0, 0, 0, 0, 0), (14, .dup, 0, 0, 0, 0), (15, .getfield 29, 1, 8, 328, 0), (18, .iload_n 1, 0, 0, 0, 0), (19, .bipush 10, 0, 0, 0, 10), (21, .irem, 0, 0, 0, 0), (22, .iadd, 0, 0, 0, 0), (23, .putfield 29, 1, 8, 328, 0), (26, .return_, 0, 0, 0, 0)]
set_option maxRecDepth 100000 in
theorem ok_X1_countChange : k_X1_countChange.all (gl_ok1 gl_mn m_X1_countChange) = true := by decide +kernel
def k_X2_init : List (Nat × gl_O) := [(0, .aload_n 0, 0, 0, 0, 0), (1, .invokespecial 3, 3, 0, 221, 0), (4, .aload_n 0, 0, 0, 0, 0), (5, .new 9, 6, 0, 222, 0), (8, .dup, 0, 0, 0, 0), (9, .bipush 10, 0, 0, 0, 10), (11, .invokespecial 11, 0, 135, 224, 0), (14, .putfield 14, 2, 0, 238, 0), (17, .aload_n 0, 0, 0, 0, 0), (18, .iconst 0, 0, 0, 0, 0), (19, .putfield 20, 2, 1, 239, 0), (22, .aload_n 0, 0, 0, 0, 0), (23, .iconst 0, 0, 0, 0, 0), (24, .putfield 24, 2, 2, 240, 0), (27, .return_, 0, 0, 0, 0)]
set_option maxRecDepth 100000 in
theorem ok_X2_init : k_X2_init.all (gl_ok1 gl_mn m_X2_init) = true := by decide +kernel
def k_X2_dropAll : List (Nat × gl_O) := [(0, .aload_n 0, 0, 0, 0, 0), (1, .iconst 0, 0, 0, 0, 0), (2, .putfield 20, 2, 1, 239, 0), (5, .aload_n 0, 0, 0, 0, 0), (6, .iconst 0, 0, 0, 0, 0), (7, .putfield 24, 2, 2, 240, 0), (10, .return_, 0, 0, 0, 0)]
set_option maxRecDepth 100000 in
theorem ok_X2_dropAll : k_X2_dropAll.all (gl_ok1 gl_mn m_X2_dropAll) = true := by decide +kernel
def k_X2_remember : List (Nat × gl_O) := [(0, .aload_n 0, 0, 0, 0, 0), (1, .getfield 24, 2, 2, 240, 0), (4, .bipush 10, 0, 0, 0, 10), (6, .if_icmp .ge 16, 0, 0, 0, 0), (9, .aload_n 0, 0, 0, 0, 0), (10, .dup, 0, 0, 0, 0), (11, .getfield 24, 2, 2, 240, 0), (14, .iconst 1, 0, 0, 0, 1), (15, .iadd, 0, 0, 0, 0), (16, .putfield 24, 2, 2, 240, 0), (19, .goto 16, 0, 0, 0, 0), (22, .aload_n 0, 0, 0, 0, 0), (23, .aload_n 0, 0, 0, 0, 0), (24, .getfield 20, 2, 1, 239, 0), (27, .iconst 1, 0, 0, 0, 1), (28, .iadd, 0, 0, 0, 0), (29, .bipush 10, 0, 0, 0, 10), (31, .irem, 0, 0, 0, 0), (32, .putfield 20, 2, 1, 239, 0), (35, .aload_n 0, 0, 0, 0, 0), (36, .getfield 14, 2, 0, 238, 0), (39, .aload_n 0, 0, 0, 0, 0), (40, .getfield 20, 2, 1, 239, 0), (43, .aload_n 0, 0, 0, 0, 0), (44, .getfield 24, 2, 2, 240, 0), (47, .iadd, 0, 0, 0, 0), (48, .iconst 1, 0, 0, 0, 1), (49, .isub, 0, 0, 0, 0), (50, .bipush 10, 0, 0, 0, 10), (52, .irem, 0, 0, 0, 0), (53, .aload_n 1, 0, 0, 0, 0), (54, .invokevirtual 27, 0, 138, 508, 0), (57, .return_, 0, 0, 0, 0)]
set_option maxRecDepth 100000 in
theorem ok_X2_remember : k_X2_remember.all (gl_ok1 gl_mn m_X2_remember) = true := by decide +kernel
def k_X2_restore : List (Nat × gl_O) := [(0, .aload_n 0, 0, 0, 0, 0), (1, .dup, 0, 0, 0, 0), (2, .getfield 24, 2, 2, 240, 0), (5, .iconst 1, 0, 0, 0, 1), (6, .isub, 0, 0, 0, 0), (7, .putfield 24, 2, 2, 240, 0), (10, .aload_n 0, 0, 0, 0, 0), (11, .getfield 14, 2, 0, 238, 0), (14, .aload_n 1, 0, 0, 0, 0), (15, .aload_n 0, 0, 0, 0, 0), (16, .getfield 20, 2, 1, 239, 0), (19, .aload_n 0, 0, 0, 0, 0), (20, .getfield 24, 2, 2, 240, 0), (23, .iadd, 0, 0, 0, 0), (24, .bipush 10, 0, 0, 0, 10), (26, .irem, 0, 0, 0, 0), (27, .invokevirtual 31, 0, 139, 550, 0), (30, .return_, 0, 0, 0, 0)]
set_option maxRecDepth 100000 in
theorem ok_X2_restore : k_X2_restore.all (gl_ok1 gl_mn m_X2_restore) = true := by decide +kernel
def k_X3_init : List (Nat × gl_O) := [(0, .aload_n 0, 0, 0, 0, 0), (1, .invokespecial 3, 3, 0, 302, 0), (4, .aload_n 0, 0, 0, 0, 0), (5, .sipush 144, 0, 0, 0, 144), (8, .newarray .boolean, 0, 0, 0, 0), (10, .putfield 9, 3, 2, 305, 0), (13, .aload_n 0, 0, 0, 0, 0), (14, .sipush 486, 0, 0, 0, 486), (17, .newarray .int, 0, 0, 0, 0), (19, .putfield 15, 3, 3, 306, 0), (22, .aload_n 0, 0, 0, 0, 0), (23, .aload_n 1, 0, 0, 0, 0), (24, .putfield 19, 3, 0, 303, 0), (27, .aload_n 0, 0, 0, 0, 0), (28, .aload_n 2, 0, 0, 0, 0), (29, .putfield 23, 3, 1, 304, 0), (32, .return_, 0, 0, 0, 0)]
set_option maxRecDepth 100000 in
theorem ok_X3_init : k_X3_init.all (gl_ok1 gl_mn m_X3_init) = true := by decide +kernel
def k_X3_longest : List (Nat × gl_O) := [(0, .aload_n 0, 0, 0, 0, 0), (1, .getfield 15, 3, 3, 306, 0), (4, .iconst 0, 0, 0, 0, 0), (5, .invokestatic 27, 0, 161, 670, 0), (8, .iconst 0, 0, 0, 0, 0), (9, .istore_n 1, 0, 0, 0, 0), (10, .iload_n 1, 0, 0, 0, 0), (11, .aload_n 0, 0, 0, 0, 0), (12, .getfield 23, 3, 1, 304, 0), (15, .getfield 33, 8, 1, 202, 0), (18, .if_icmp .ge 26, 0, 0, 0, 0), (21, .aload_n 0, 0, 0, 0, 0), (22, .iload_n 1, 0, 0, 0, 0), (23, .invokevirtual 39, 0, 120, 671, 0), (26, .ifCond .ne 5, 0, 0, 0, 0), (29, .iload_n 1, 0, 0, 0, 0), (30, .ireturn, 0, 0, 0, 0), (31, .aload_n 0, 0, 0, 0, 0), (32, .iload_n 1, 0, 0, 0, 0), (33, .iconst 1, 0, 0, 0, 1), (34, .iadd, 0, 0, 0, 0), (35, .invokevirtual 43, 0, 121, 678, 0), (38, .iinc 1 1, 0, 0, 0, 1), (41, .goto (-31), 0, 0, 0, 0), (44, .aload_n 0, 0, 0, 0, 0), (45, .getfield 23, 3, 1, 304, 0), (48, .getfield 33, 8, 1, 202, 0), (51, .ireturn, 0, 0, 0, 0)]
set_option maxRecDepth 100000 in
theorem ok_X3_longest : k_X3_longest.all (gl_ok1 gl_mn m_X3_longest) = true := by decide +kernel
def k_X3_findLive : List (Nat × gl_O) := [(0, .iconst 0, 0, 0, 0, 0), (1, .istore_n 2, 0, 0, 0, 0), (2, .iconst 0, 0, 0, 0, 0), (3, .istore_n 3, 0, 0, 0, 0), (4, .iload_n 3, 0, 0, 0, 0), (5, .aload_n 0, 0, 0, 0, 0), (6, .getfield 19, 3, 0, 303, 0), (9, .invokevirtual 47, 0, 94, 674, 0), (12, .if_icmp .ge 88, 0, 0, 0, 0), (15, .aload_n 0, 0, 0, 0, 0), (16, .getfield 9, 3, 2, 305, 0), (19, .iload_n 3, 0, 0, 0, 0), (20, .iconst 0, 0, 0, 0, 0), (21, .bastore, 0, 0, 0, 0), (22, .iconst 0, 0, 0, 0, 0), (23, .istore 4, 0, 0, 0, 0), (25, .iload 4, 0, 0, 0, 0), (27, .aload_n 0, 0, 0, 0, 0), (28, .getfield 19, 3, 0, 303, 0), (31, .iload_n 3, 0, 0, 0, 0), (32, .invokevirtual 53, 0, 96, 675, 0), (35, .if_icmp .ge 59, 0, 0, 0, 0), (38, .aload_n 0, 0, 0, 0, 0), (39, .getfield 15, 3, 3, 306, 0), (42, .aload_n 0, 0, 0, 0, 0), (43, .getfield 19, 3, 0, 303, 0), (46, .iload_n 3, 0, 0, 0, 0), (47, .iload 4, 0, 0, 0, 0), (49, .invokevirtual 57, 0, 99, 676, 0), (52, .iaload, 0, 0, 0, 0), (53, .iload_n 1, 0, 0, 0, 0), (54, .if_icmp .ne 34, 0, 0, 0, 0), (57, .aload_n 0, 0, 0, 0, 0), (58, .getfield 19, 3, 0, 303, 0), (61, .iload_n 3, 0, 0, 0, 0), (62, .iload 4, 0, 0, 0, 0), (64, .aload_n 0, 0, 0, 0, 0), (65, .getfield 23, 3, 1, 304, 0), (68, .getfield 61, 8, 0, 197, 0), (71, .iload_n 1, 0, 0, 0, 0), (72, .iaload, 0, 0, 0, 0), (73, .invokevirtual 64, 0, 100, 677, 0), (76, .ifCond .eq 12, 0, 0, 0, 0), (79, .aload_n 0, 0, 0, 0, 0), (80, .getfield 9, 3, 2, 305, 0), (83, .iload_n 3, 0, 0, 0, 0), (84, .iconst 1, 0, 0, 0, 1), (85, .bastore, 0, 0, 0, 0), (86, .iconst 1, 0, 0, 0, 1), (87, .istore_n 2, 0, 0, 0, 0), (88, .iinc 4 1, 0, 0, 0, 1), (91, .goto (-66), 0, 0, 0, 0), (94, .iinc 3 1, 0, 0, 0, 1), (97, .goto (-93), 0, 0, 0, 0), (100, .iload_n 2, 0, 0, 0, 0), (101, .ireturn, 0, 0, 0, 0)]
set_option maxRecDepth 100000 in
theorem ok_X3_findLive : k_X3_findLive.all (gl_ok1 gl_mn m_X3_findLive) = true := by decide +kernel
def k_X3_markFromLive : List (Nat × gl_O) := [(0, .iconst 0, 0, 0, 0, 0), (1, .istore_n 2, 0, 0, 0, 0), (2, .iload_n 2, 0, 0, 0, 0), (3, .aload_n 0, 0, 0, 0, 0), (4, .getfield 19, 3, 0, 303, 0), (7, .invokevirtual 47, 0, 94, 674, 0), (10, .if_icmp .ge 53, 0, 0, 0, 0), (13, .iconst 0, 0, 0, 0, 0), (14, .istore_n 3, 0, 0, 0, 0), (15, .aload_n 0, 0, 0, 0, 0), (16, .getfield 9, 3, 2, 305, 0), (19, .iload_n 2, 0, 0, 0, 0), (20, .baload, 0, 0, 0, 0), (21, .ifCond .eq 36, 0, 0, 0, 0), (24, .iload_n 3, 0, 0, 0, 0), (25, .aload_n 0, 0, 0, 0, 0), (26, .getfield 19, 3, 0, 303, 0), (29, .iload_n 2, 0, 0, 0, 0), (30, .invokevirtual 53, 0, 96, 675, 0), (33, .if_icmp .ge 24, 0, 0, 0, 0), (36, .aload_n 0, 0, 0, 0, 0), (37, .getfield 15, 3, 3, 306, 0), (40, .aload_n 0, 0, 0, 0, 0), (41, .getfield 19, 3, 0, 303, 0), (44, .iload_n 2, 0, 0, 0, 0), (45, .iload_n 3, 0, 0, 0, 0), (46, .invokevirtual 57, 0, 99, 676, 0), (49, .iload_n 1, 0, 0, 0, 0), (50, .iastore, 0, 0, 0, 0), (51, .iinc 3 1, 0, 0, 0, 1), (54, .goto (-39), 0, 0, 0, 0), (57, .iinc 2 1, 0, 0, 0, 1), (60, .goto (-58), 0, 0, 0, 0), (63, .return_, 0, 0, 0, 0)]
set_option maxRecDepth 100000 in
theorem ok_X3_markFromLive : k_X3_markFromLive.all (gl_ok1 gl_mn m_X3_markFromLive) = true := by decide +kernel
def k_X4_init : List (Nat × gl_O) := [(0, .aload_n 0, 0, 0, 0, 0), (1, .invokespecial 3, 3, 0, 176, 0), (4, .aload_n 0, 0, 0, 0, 0), (5, .iconst 0, 0, 0, 0, 0), (6, .putfield 9, 4, 2, 179, 0), (9, .aload_n 0, 0, 0, 0, 0), (10, .iconst (-1), 0, 0, 0, (-1)), (11, .putfield 15, 4, 3, 180, 0), (14, .aload_n 0, 0, 0, 0, 0), (15, .aload_n 1, 0, 0, 0, 0), (16, .putfield 18, 4, 0, 177, 0), (19, .aload_n 0, 0, 0, 0, 0), (20, .aload_n 2, 0, 0, 0, 0), (21, .putfield 22, 4, 1, 178, 0), (24, .return_, 0, 0, 0, 0)]
set_option maxRecDepth 100000 in
theorem ok_X4_init : k_X4_init.all (gl_ok1 gl_mn m_X4_init) = true := by decide +kernel
def k_X4_read : List (Nat × gl_O) := [(0, .aload_n 0, 0, 0, 0, 0), (1, .getfield 22, 4, 1, 178, 0), (4, .invokevirtual 26, 0, 86, 408, 0), (7, .aload_n 0, 0, 0, 0, 0), (8, .iconst 0, 0, 0, 0, 0), (9, .putfield 9, 4, 2, 179, 0), (12, .aload_n 0, 0, 0, 0, 0), (13, .iconst (-1), 0, 0, 0, (-1)), (14, .putfield 15, 4, 3, 180, 0), (17, .iconst 0, 0, 0, 0, 0), (18, .istore_n 1, 0, 0, 0, 0), (19, .aload_n 0, 0, 0, 0, 0), (20, .invokevirtual 31, 0, 131, 411, 0), (23, .iconst 0, 0, 0, 0, 0), (24, .istore_n 2, 0, 0, 0, 0), (25, .iload_n 2, 0, 0, 0, 0), (26, .sipush 130, 0, 0, 0, 130), (29, .if_icmp .ge 42, 0, 0, 0, 0), (32, .aload_n 0, 0, 0, 0, 0), (33, .getfield 9, 4, 2, 179, 0), (36, .aload_n 0, 0, 0, 0, 0), (37, .getfield 18, 4, 0, 177, 0), (40, .getfield 34, 7, 1, 121, 0), (43, .if_icmp .ge 28, 0, 0, 0, 0), (46, .aload_n 0, 0, 0, 0, 0), (47, .getfield 15, 4, 3, 180, 0), (50, .iconst (-1), 0, 0, 0, (-1)), (51, .if_icmp .ne 20, 0, 0, 0, 0), (54, .aload_n 0, 0, 0, 0, 0), (55, .invokevirtual 39, 0, 124, 417, 0), (58, .aload_n 0, 0, 0, 0, 0), (59, .invokevirtual 31, 0, 131, 411, 0), (62, .iinc 1 1, 0, 0, 0, 1), (65, .iinc 2 1, 0, 0, 0, 1), (68, .goto (-43), 0, 0, 0, 0), (71, .aload_n 0, 0, 0, 0, 0), (72, .getfield 15, 4, 3, 180, 0), (75, .iconst (-1), 0, 0, 0, (-1)), (76, .if_icmp .ne 7, 0, 0, 0, 0), (79, .iload_n 1, 0, 0, 0, 0), (80, .goto 10, 0, 0, 0, 0), (83, .bipush (-10), 0, 0, 0, (-10)), (85, .aload_n 0, 0, 0, 0, 0), (86, .getfield 15, 4, 3, 180, 0), (89, .isub, 0, 0, 0, 0), (90, .ireturn, 0, 0, 0, 0)]
set_option maxRecDepth 100000 in
theorem ok_X4_read : k_X4_read.all (gl_ok1 gl_mn m_X4_read) = true := by decide +kernel
def k_X4_readItem : List (Nat × gl_O) := [(0, .aload_n 0, 0, 0, 0, 0), (1, .getfield 18, 4, 0, 177, 0), (4, .aload_n 0, 0, 0, 0, 0), (5, .getfield 9, 4, 2, 179, 0), (8, .invokevirtual 42, 0, 142, 414, 0), (11, .istore_n 1, 0, 0, 0, 0), (12, .iload_n 1, 0, 0, 0, 0), (13, .bipush 99, 0, 0, 0, 99), (15, .if_icmp .ne 32, 0, 0, 0, 0), (18, .aload_n 0, 0, 0, 0, 0), (19, .getfield 22, 4, 1, 178, 0), (22, .getfield 46, 0, 0, 135, 0), (25, .bipush 6, 0, 0, 0, 6), (27, .if_icmp .ge 20, 0, 0, 0, 0), (30, .aload_n 0, 0, 0, 0, 0), (31, .dup, 0, 0, 0, 0), (32, .getfield 9, 4, 2, 179, 0), (35, .iconst 1, 0, 0, 0, 1), (36, .iadd, 0, 0, 0, 0), (37, .putfield 9, 4, 2, 179, 0), (40, .aload_n 0, 0, 0, 0, 0), (41, .invokevirtual 49, 0, 125, 420, 0), (44, .goto 46, 0, 0, 0, 0), (47, .iload_n 1, 0, 0, 0, 0), (48, .bipush 109, 0, 0, 0, 109), (50, .if_icmp .ne 32, 0, 0, 0, 0), (53, .aload_n 0, 0, 0, 0, 0), (54, .getfield 22, 4, 1, 178, 0), (57, .getfield 52, 0, 5, 143, 0), (60, .bipush 6, 0, 0, 0, 6), (62, .if_icmp .ge 20, 0, 0, 0, 0), (65, .aload_n 0, 0, 0, 0, 0), (66, .dup, 0, 0, 0, 0), (67, .getfield 9, 4, 2, 179, 0), (70, .iconst 1, 0, 0, 0, 1), (71, .iadd, 0, 0, 0, 0), (72, .putfield 9, 4, 2, 179, 0), (75, .aload_n 0, 0, 0, 0, 0), (76, .invokevirtual 55, 0, 126, 442, 0), (79, .goto 11, 0, 0, 0, 0), (82, .aload_n 0, 0, 0, 0, 0), (83, .aload_n 0, 0, 0, 0, 0), (84, .getfield 9, 4, 2, 179, 0), (87, .putfield 15, 4, 3, 180, 0), (90, .return_, 0, 0, 0, 0)]
set_option maxRecDepth 100000 in
theorem ok_X4_readItem : k_X4_readItem.all (gl_ok1 gl_mn m_X4_readItem) = true := by decide +kernel
def k_X4_readCell : List (Nat × gl_O) := [(0, .aload_n 0, 0, 0, 0, 0), (1, .getfield 22, 4, 1, 178, 0), (4, .invokevirtual 58, 0, 89, 423, 0), (7, .iconst 0, 0, 0, 0, 0), (8, .istore_n 1, 0, 0, 0, 0), (9, .iload_n 1, 0, 0, 0, 0), (10, .iconst 4, 0, 0, 0, 4), (11, .if_icmp .ge 44, 0, 0, 0, 0), (14, .iload_n 1, 0, 0, 0, 0), (15, .ifCond .le 13, 0, 0, 0, 0), (18, .aload_n 0, 0, 0, 0, 0), (19, .invokevirtual 61, 0, 128, 426, 0), (22, .ifCond .eq 6, 0, 0, 0, 0), (25, .goto 30, 0, 0, 0, 0), (28, .aload_n 0, 0, 0, 0, 0), (29, .iconst 1, 0, 0, 0, 1), (30, .iconst 4, 0, 0, 0, 4), (31, .invokevirtual 65, 0, 129, 429, 0), (34, .istore_n 2, 0, 0, 0, 0), (35, .iload_n 2, 0, 0, 0, 0), (36, .iconst (-1), 0, 0, 0, (-1)), (37, .if_icmp .ne 4, 0, 0, 0, 0), (40, .return_, 0, 0, 0, 0), (41, .aload_n 0, 0, 0, 0, 0), (42, .getfield 22, 4, 1, 178, 0), (45, .iload_n 2, 0, 0, 0, 0), (46, .invokevirtual 69, 0, 90, 436, 0), (49, .iinc 1 1, 0, 0, 0, 1), (52, .goto (-43), 0, 0, 0, 0), (55, .aload_n 0, 0, 0, 0, 0), (56, .invokevirtual 73, 0, 127, 439, 0), (59, .return_, 0, 0, 0, 0)]
set_option maxRecDepth 100000 in
theorem ok_X4_readCell : k_X4_readCell.all (gl_ok1 gl_mn m_X4_readCell) = true := by decide +kernel
def k_X4_readMode : List (Nat × gl_O) := [(0, .aload_n 0, 0, 0, 0, 0), (1, .iconst 0, 0, 0, 0, 0), (2, .aload_n 0, 0, 0, 0, 0), (3, .getfield 22, 4, 1, 178, 0), (6, .getfield 46, 0, 0, 135, 0), (9, .iconst 1, 0, 0, 0, 1), (10, .isub, 0, 0, 0, 0), (11, .invokevirtual 65, 0, 129, 429, 0), (14, .istore_n 1, 0, 0, 0, 0), (15, .iload_n 1, 0, 0, 0, 0), (16, .iconst (-1), 0, 0, 0, (-1)), (17, .if_icmp .ne 4, 0, 0, 0, 0), (20, .return_, 0, 0, 0, 0), (21, .aload_n 0, 0, 0, 0, 0), (22, .getfield 22, 4, 1, 178, 0), (25, .iload_n 1, 0, 0, 0, 0), (26, .invokevirtual 76, 0, 91, 445, 0), (29, .iconst 1, 0, 0, 0, 1), (30, .istore_n 2, 0, 0, 0, 0), (31, .iload_n 2, 0, 0, 0, 0), (32, .iconst 4, 0, 0, 0, 4), (33, .if_icmp .ge 59, 0, 0, 0, 0), (36, .aload_n 0, 0, 0, 0, 0), (37, .invokevirtual 61, 0, 128, 426, 0), (40, .ifCond .ne 52, 0, 0, 0, 0), (43, .aload_n 0, 0, 0, 0, 0), (44, .iconst 0, 0, 0, 0, 0), (45, .iconst 3, 0, 0, 0, 3), (46, .invokevirtual 65, 0, 129, 429, 0), (49, .istore_n 3, 0, 0, 0, 0), (50, .iload_n 3, 0, 0, 0, 0), (51, .iconst (-1), 0, 0, 0, (-1)), (52, .if_icmp .ne 4, 0, 0, 0, 0), (55, .return_, 0, 0, 0, 0), (56, .aload_n 0, 0, 0, 0, 0), (57, .iconst 0, 0, 0, 0, 0), (58, .aload_n 0, 0, 0, 0, 0), (59, .getfield 22, 4, 1, 178, 0), (62, .getfield 46, 0, 0, 135, 0), (65, .iconst 1, 0, 0, 0, 1), (66, .isub, 0, 0, 0, 0), (67, .invokevirtual 65, 0, 129, 429, 0), (70, .istore_n 1, 0, 0, 0, 0), (71, .iload_n 1, 0, 0, 0, 0), (72, .iconst (-1), 0, 0, 0, (-1)), (73, .if_icmp .ne 4, 0, 0, 0, 0), (76, .return_, 0, 0, 0, 0), (77, .aload_n 0, 0, 0, 0, 0), (78, .getfield 22, 4, 1, 178, 0), (81, .iload_n 3, 0, 0, 0, 0), (82, .iload_n 1, 0, 0, 0, 0), (83, .invokevirtual 79, 0, 92, 448, 0), (86, .iinc 2 1, 0, 0, 0, 1), (89, .goto (-58), 0, 0, 0, 0), (92, .aload_n 0, 0, 0, 0, 0), (93, .invokevirtual 73, 0, 127, 439, 0), (96, .return_, 0, 0, 0, 0)]
set_option maxRecDepth 100000 in
theorem ok_X4_readMode : k_X4_readMode.all (gl_ok1 gl_mn m_X4_readMode) = true := by decide +kernel
def k_X4_readEnd : List (Nat × gl_O) := [(0, .aload_n 0, 0, 0, 0, 0), (1, .invokevirtual 61, 0, 128, 426, 0), (4, .ifCond .eq 16, 0, 0, 0, 0), (7, .aload_n 0, 0, 0, 0, 0), (8, .dup, 0, 0, 0, 0), (9, .getfield 9, 4, 2, 179, 0), (12, .iconst 1, 0, 0, 0, 1), (13, .iadd, 0, 0, 0, 0), (14, .putfield 9, 4, 2, 179, 0), (17, .goto 11, 0, 0, 0, 0), (20, .aload_n 0, 0, 0, 0, 0), (21, .aload_n 0, 0, 0, 0, 0), (22, .getfield 9, 4, 2, 179, 0), (25, .putfield 15, 4, 3, 180, 0), (28, .return_, 0, 0, 0, 0)]
set_option maxRecDepth 100000 in
theorem ok_X4_readEnd : k_X4_readEnd.all (gl_ok1 gl_mn m_X4_readEnd) = true := by decide +kernel
def k_X4_atEnd : List (Nat × gl_O) := [(0, .aload_n 0, 0, 0, 0, 0), (1, .invokevirtual 31, 0, 131, 411, 0), (4, .aload_n 0, 0, 0, 0, 0), (5, .getfield 18, 4, 0, 177, 0), (8, .aload_n 0, 0, 0, 0, 0), (9, .getfield 9, 4, 2, 179, 0), (12, .invokevirtual 42, 0, 142, 414, 0), (15, .bipush 59, 0, 0, 0, 59), (17, .if_icmp .ne 7, 0, 0, 0, 0), (20, .iconst 1, 0, 0, 0, 1), (21, .goto 4, 0, 0, 0, 0), (24, .iconst 0, 0, 0, 0, 0), (25, .ireturn, 0, 0, 0, 0)]
set_option maxRecDepth 100000 in
theorem ok_X4_atEnd : k_X4_atEnd.all (gl_ok1 gl_mn m_X4_atEnd) = true := by decide +kernel
def k_X4_readNumber : List (Nat × gl_O) := [(0, .aload_n 0, 0, 0, 0, 0), (1, .invokevirtual 31, 0, 131, 411, 0), (4, .aload_n 0, 0, 0, 0, 0), (5, .getfield 18, 4, 0, 177, 0), (8, .aload_n 0, 0, 0, 0, 0), (9, .getfield 9, 4, 2, 179, 0), (12, .invokevirtual 42, 0, 142, 414, 0), (15, .istore_n 3, 0, 0, 0, 0), (16, .iload_n 3, 0, 0, 0, 0), (17, .invokestatic 83, 0, 130, 432, 0), (20, .ifCond .eq 34, 0, 0, 0, 0), (23, .aload_n 0, 0, 0, 0, 0), (24, .getfield 18, 4, 0, 177, 0), (27, .aload_n 0, 0, 0, 0, 0), (28, .getfield 9, 4, 2, 179, 0), (31, .iconst 1, 0, 0, 0, 1), (32, .iadd, 0, 0, 0, 0), (33, .invokevirtual 42, 0, 142, 414, 0), (36, .invokestatic 83, 0, 130, 432, 0), (39, .ifCond .ne 15, 0, 0, 0, 0), (42, .iload_n 3, 0, 0, 0, 0), (43, .bipush 48, 0, 0, 0, 48), (45, .isub, 0, 0, 0, 0), (46, .iload_n 1, 0, 0, 0, 0), (47, .iload_n 2, 0, 0, 0, 0), (48, .invokestatic 87, 0, 28, 435, 0), (51, .ifCond .ne 13, 0, 0, 0, 0), (54, .aload_n 0, 0, 0, 0, 0), (55, .aload_n 0, 0, 0, 0, 0), (56, .getfield 9, 4, 2, 179, 0), (59, .putfield 15, 4, 3, 180, 0), (62, .iconst (-1), 0, 0, 0, (-1)), (63, .ireturn, 0, 0, 0, 0), (64, .aload_n 0, 0, 0, 0, 0), (65, .dup, 0, 0, 0, 0), (66, .getfield 9, 4, 2, 179, 0), (69, .iconst 1, 0, 0, 0, 1), (70, .iadd, 0, 0, 0, 0), (71, .putfield 9, 4, 2, 179, 0), (74, .iload_n 3, 0, 0, 0, 0), (75, .bipush 48, 0, 0, 0, 48), (77, .isub, 0, 0, 0, 0), (78, .ireturn, 0, 0, 0, 0)]
set_option maxRecDepth 100000 in
theorem ok_X4_readNumber : k_X4_readNumber.all (gl_ok1 gl_mn m_X4_readNumber) = true := by decide +kernel
def k_X4_isFigure : List (Nat × gl_O) := [(0, .iload_n 0, 0, 0, 0, 0), (1, .bipush 48, 0, 0, 0, 48), (3, .if_icmp .lt 13, 0, 0, 0, 0), (6, .iload_n 0, 0, 0, 0, 0), (7, .bipush 57, 0, 0, 0, 57), (9, .if_icmp .gt 7, 0, 0, 0, 0), (12, .iconst 1, 0, 0, 0, 1), (13, .goto 4, 0, 0, 0, 0), (16, .iconst 0, 0, 0, 0, 0), (17, .ireturn, 0, 0, 0, 0)]
set_option maxRecDepth 100000 in
theorem ok_X4_isFigure : k_X4_isFigure.all (gl_ok1 gl_mn m_X4_isFigure) = true := by decide +kernel
def k_X4_skipBlanks : List (Nat × gl_O) := [(0, .aload_n 0, 0, 0, 0, 0), (1, .getfield 9, 4, 2, 179, 0), (4, .aload_n 0, 0, 0, 0, 0), (5, .getfield 18, 4, 0, 177, 0), (8, .getfield 34, 7, 1, 121, 0), (11, .if_icmp .ge 32, 0, 0, 0, 0), (14, .aload_n 0, 0, 0, 0, 0), (15, .getfield 18, 4, 0, 177, 0), (18, .aload_n 0, 0, 0, 0, 0), (19, .getfield 9, 4, 2, 179, 0), (22, .invokevirtual 42, 0, 142, 414, 0), (25, .bipush 32, 0, 0, 0, 32), (27, .if_icmp .ne 16, 0, 0, 0, 0), (30, .aload_n 0, 0, 0, 0, 0), (31, .dup, 0, 0, 0, 0), (32, .getfield 9, 4, 2, 179, 0), (35, .iconst 1, 0, 0, 0, 1), (36, .iadd, 0, 0, 0, 0), (37, .putfield 9, 4, 2, 179, 0), (40, .goto (-40), 0, 0, 0, 0), (43, .return_, 0, 0, 0, 0)]
set_option maxRecDepth 100000 in
theorem ok_X4_skipBlanks : k_X4_skipBlanks.all (gl_ok1 gl_mn m_X4_skipBlanks) = true := by decide +kernel
def k_X5_init : List (Nat × gl_O) := [(0, .aload_n 0, 0, 0, 0, 0), (1, .invokespecial 3, 3, 0, 256, 0), (4, .aload_n 0, 0, 0, 0, 0), (5, .bipush 8, 0, 0, 0, 8), (7, .newarray .int, 0, 0, 0, 0), (9, .putfield 9, 5, 0, 257, 0), (12, .aload_n 0, 0, 0, 0, 0), (13, .bipush 8, 0, 0, 0, 8), (15, .newarray .int, 0, 0, 0, 0), (17, .putfield 15, 5, 1, 258, 0), (20, .aload_n 0, 0, 0, 0, 0), (21, .iconst 0, 0, 0, 0, 0), (22, .putfield 18, 5, 2, 259, 0), (25, .return_, 0, 0, 0, 0)]
set_option maxRecDepth 100000 in
theorem ok_X5_init : k_X5_init.all (gl_ok1 gl_mn m_X5_init) = true := by decide +kernel
def k_X5_add : List (Nat × gl_O) := [(0, .aload_n 0, 0, 0, 0, 0), (1, .getfield 9, 5, 0, 257, 0), (4, .aload_n 0, 0, 0, 0, 0), (5, .getfield 18, 5, 2, 259, 0), (8, .iload_n 1, 0, 0, 0, 0), (9, .iastore, 0, 0, 0, 0), (10, .aload_n 0, 0, 0, 0, 0), (11, .getfield 15, 5, 1, 258, 0), (14, .aload_n 0, 0, 0, 0, 0), (15, .getfield 18, 5, 2, 259, 0), (18, .iload_n 2, 0, 0, 0, 0), (19, .iastore, 0, 0, 0, 0), (20, .aload_n 0, 0, 0, 0, 0), (21, .dup, 0, 0, 0, 0), (22, .getfield 18, 5, 2, 259, 0), (25, .iconst 1, 0, 0, 0, 1), (26, .iadd, 0, 0, 0, 0), (27, .putfield 18, 5, 2, 259, 0), (30, .return_, 0, 0, 0, 0)]
set_option maxRecDepth 100000 in
theorem ok_X5_add : k_X5_add.all (gl_ok1 gl_mn m_X5_add) = true := by decide +kernel
def k_X5_agreesWith : List (Nat × gl_O) := [(0, .iconst 0, 0, 0, 0, 0), (1, .istore_n 3, 0, 0, 0, 0), (2, .iload_n 3, 0, 0, 0, 0), (3, .aload_n 0, 0, 0, 0, 0), (4, .getfield 18, 5, 2, 259, 0), (7, .if_icmp .ge 43, 0, 0, 0, 0), (10, .aload_n 1, 0, 0, 0, 0), (11, .iload_n 2, 0, 0, 0, 0), (12, .aload_n 0, 0, 0, 0, 0), (13, .getfield 9, 5, 0, 257, 0), (16, .iload_n 3, 0, 0, 0, 0), (17, .iaload, 0, 0, 0, 0), (18, .invokevirtual 22, 0, 101, 721, 0), (21, .ifCond .le 7, 0, 0, 0, 0), (24, .iconst 1, 0, 0, 0, 1), (25, .goto 4, 0, 0, 0, 0), (28, .iconst 0, 0, 0, 0, 0), (29, .istore 4, 0, 0, 0, 0), (31, .iload 4, 0, 0, 0, 0), (33, .aload_n 0, 0, 0, 0, 0), (34, .getfield 15, 5, 1, 258, 0), (37, .iload_n 3, 0, 0, 0, 0), (38, .iaload, 0, 0, 0, 0), (39, .if_icmp .eq 5, 0, 0, 0, 0), (42, .iconst 0, 0, 0, 0, 0), (43, .ireturn, 0, 0, 0, 0), (44, .iinc 3 1, 0, 0, 0, 1), (47, .goto (-45), 0, 0, 0, 0), (50, .iconst 1, 0, 0, 0, 1), (51, .ireturn, 0, 0, 0, 0)]
set_option maxRecDepth 100000 in
theorem ok_X5_agreesWith : k_X5_agreesWith.all (gl_ok1 gl_mn m_X5_agreesWith) = true := by decide +kernel
def k_X6_init : List (Nat × gl_O) := [(0, .aload_n 0, 0, 0, 0, 0), (1, .invokespecial 3, 3, 0, 227, 0), (4, .aload_n 0, 0, 0, 0, 0), (5, .iload_n 1, 0, 0, 0, 0), (6, .newarray .int, 0, 0, 0, 0), (8, .putfield 9, 6, 0, 231, 0), (11, .aload_n 0, 0, 0, 0, 0), (12, .iload_n 1, 0, 0, 0, 0), (13, .bipush 16, 0, 0, 0, 16), (15, .imul, 0, 0, 0, 0), (16, .newarray .int, 0, 0, 0, 0), (18, .putfield 15, 6, 1, 232, 0), (21, .aload_n 0, 0, 0, 0, 0), (22, .getfield 9, 6, 0, 231, 0), (25, .iconst (-1), 0, 0, 0, (-1)), (26, .invokestatic 18, 0, 161, 228, 0), (29, .return_, 0, 0, 0, 0)]
set_option maxRecDepth 100000 in
theorem ok_X6_init : k_X6_init.all (gl_ok1 gl_mn m_X6_init) = true := by decide +kernel
def k_X6_dropAll : List (Nat × gl_O) := [(0, .aload_n 0, 0, 0, 0, 0), (1, .getfield 9, 6, 0, 231, 0), (4, .iconst (-1), 0, 0, 0, (-1)), (5, .invokestatic 18, 0, 161, 228, 0), (8, .return_, 0, 0, 0, 0)]
set_option maxRecDepth 100000 in
theorem ok_X6_dropAll : k_X6_dropAll.all (gl_ok1 gl_mn m_X6_dropAll) = true := by decide +kernel
def k_X6_isKept : List (Nat × gl_O) := [(0, .aload_n 0, 0, 0, 0, 0), (1, .getfield 9, 6, 0, 231, 0), (4, .iload_n 1, 0, 0, 0, 0), (5, .iaload, 0, 0, 0, 0), (6, .iconst (-1), 0, 0, 0, (-1)), (7, .if_icmp .eq 7, 0, 0, 0, 0), (10, .iconst 1, 0, 0, 0, 1), (11, .goto 4, 0, 0, 0, 0), (14, .iconst 0, 0, 0, 0, 0), (15, .ireturn, 0, 0, 0, 0)]
set_option maxRecDepth 100000 in
theorem ok_X6_isKept : k_X6_isKept.all (gl_ok1 gl_mn m_X6_isKept) = true := by decide +kernel
def k_X6_put : List (Nat × gl_O) := [(0, .aload_n 0, 0, 0, 0, 0), (1, .getfield 9, 6, 0, 231, 0), (4, .iload_n 1, 0, 0, 0, 0), (5, .aload_n 2, 0, 0, 0, 0), (6, .getfield 24, 8, 1, 204, 0), (9, .iastore, 0, 0, 0, 0), (10, .aload_n 2, 0, 0, 0, 0), (11, .getfield 30, 8, 0, 198, 0), (14, .iconst 0, 0, 0, 0, 0), (15, .aload_n 0, 0, 0, 0, 0), (16, .getfield 15, 6, 1, 232, 0), (19, .iload_n 1, 0, 0, 0, 0), (20, .bipush 16, 0, 0, 0, 16), (22, .imul, 0, 0, 0, 0), (23, .aload_n 2, 0, 0, 0, 0), (24, .getfield 24, 8, 1, 204, 0), (27, .invokestatic 31, 2, 0, 511, 0), (30, .return_, 0, 0, 0, 0)]
set_option maxRecDepth 100000 in
theorem ok_X6_put : k_X6_put.all (gl_ok1 gl_mn m_X6_put) = true := by decide +kernel
def k_X6_giveTo : List (Nat × gl_O) := [(0, .aload_n 1, 0, 0, 0, 0), (1, .aload_n 0, 0, 0, 0, 0), (2, .getfield 9, 6, 0, 231, 0), (5, .iload_n 2, 0, 0, 0, 0), (6, .iaload, 0, 0, 0, 0), (7, .putfield 24, 8, 1, 204, 0), (10, .aload_n 0, 0, 0, 0, 0), (11, .getfield 15, 6, 1, 232, 0), (14, .iload_n 2, 0, 0, 0, 0), (15, .bipush 16, 0, 0, 0, 16), (17, .imul, 0, 0, 0, 0), (18, .aload_n 1, 0, 0, 0, 0), (19, .getfield 30, 8, 0, 198, 0), (22, .iconst 0, 0, 0, 0, 0), (23, .aload_n 1, 0, 0, 0, 0), (24, .getfield 24, 8, 1, 204, 0), (27, .invokestatic 31, 2, 0, 511, 0), (30, .aload_n 1, 0, 0, 0, 0), (31, .dup, 0, 0, 0, 0), (32, .getfield 37, 8, 2, 208, 0), (35, .iconst 1, 0, 0, 0, 1), (36, .iadd, 0, 0, 0, 0), (37, .putfield 37, 8, 2, 208, 0), (40, .return_, 0, 0, 0, 0)]
set_option maxRecDepth 100000 in
theorem ok_X6_giveTo : k_X6_giveTo.all (gl_ok1 gl_mn m_X6_giveTo) = true := by decide +kernel
def k_X7_init : List (Nat × gl_O) := [(0, .aload_n 0, 0, 0, 0, 0), (1, .invokespecial 3, 3, 0, 117, 0), (4, .aload_n 0, 0, 0, 0, 0), (5, .sipush 130, 0, 0, 0, 130), (8, .newarray .int, 0, 0, 0, 0), (10, .putfield 9, 7, 0, 118, 0), (13, .aload_n 0, 0, 0, 0, 0), (14, .iconst 0, 0, 0, 0, 0), (15, .putfield 15, 7, 1, 119, 0), (18, .return_, 0, 0, 0, 0)]
set_option maxRecDepth 100000 in
theorem ok_X7_init : k_X7_init.all (gl_ok1 gl_mn m_X7_init) = true := by decide +kernel
def k_X7_add : List (Nat × gl_O) := [(0, .aload_n 0, 0, 0, 0, 0), (1, .getfield 9, 7, 0, 118, 0), (4, .aload_n 0, 0, 0, 0, 0), (5, .getfield 15, 7, 1, 119, 0), (8, .iload_n 1, 0, 0, 0, 0), (9, .iastore, 0, 0, 0, 0), (10, .aload_n 0, 0, 0, 0, 0), (11, .dup, 0, 0, 0, 0), (12, .getfield 15, 7, 1, 119, 0), (15, .iconst 1, 0, 0, 0, 1), (16, .iadd, 0, 0, 0, 0), (17, .putfield 15, 7, 1, 119, 0), (20, .return_, 0, 0, 0, 0)]
set_option maxRecDepth 100000 in
theorem ok_X7_add : k_X7_add.all (gl_ok1 gl_mn m_X7_add) = true := by decide +kernel
def k_X7_letterAt : List (Nat × gl_O) := [(0, .iload_n 1, 0, 0, 0, 0), (1, .ifCond .lt 20, 0, 0, 0, 0), (4, .iload_n 1, 0, 0, 0, 0), (5, .aload_n 0, 0, 0, 0, 0), (6, .getfield 15, 7, 1, 119, 0), (9, .if_icmp .ge 12, 0, 0, 0, 0), (12, .aload_n 0, 0, 0, 0, 0), (13, .getfield 9, 7, 0, 118, 0), (16, .iload_n 1, 0, 0, 0, 0), (17, .iaload, 0, 0, 0, 0), (18, .goto 4, 0, 0, 0, 0), (21, .iconst (-1), 0, 0, 0, (-1)), (22, .ireturn, 0, 0, 0, 0)]
set_option maxRecDepth 100000 in
theorem ok_X7_letterAt : k_X7_letterAt.all (gl_ok1 gl_mn m_X7_letterAt) = true := by decide +kernel
def k_X8_init : List (Nat × gl_O) := [(0, .aload_n 0, 0, 0, 0, 0), (1, .invokespecial 3, 3, 0, 195, 0), (4, .aload_n 0, 0, 0, 0, 0), (5, .bipush 16, 0, 0, 0, 16), (7, .newarray .int, 0, 0, 0, 0), (9, .putfield 9, 8, 0, 196, 0), (12, .aload_n 0, 0, 0, 0, 0), (13, .iconst 0, 0, 0, 0, 0), (14, .putfield 15, 8, 1, 201, 0), (17, .aload_n 0, 0, 0, 0, 0), (18, .iconst 0, 0, 0, 0, 0), (19, .putfield 19, 8, 2, 206, 0), (22, .return_, 0, 0, 0, 0)]
set_option maxRecDepth 100000 in
theorem ok_X8_init : k_X8_init.all (gl_ok1 gl_mn m_X8_init) = true := by decide +kernel
def k_X8_isPlace : List (Nat × gl_O) := [(0, .iload_n 1, 0, 0, 0, 0), (1, .ifCond .lt 15, 0, 0, 0, 0), (4, .iload_n 1, 0, 0, 0, 0), (5, .aload_n 0, 0, 0, 0, 0), (6, .getfield 15, 8, 1, 201, 0), (9, .if_icmp .ge 7, 0, 0, 0, 0), (12, .iconst 1, 0, 0, 0, 1), (13, .goto 4, 0, 0, 0, 0), (16, .iconst 0, 0, 0, 0, 0), (17, .ireturn, 0, 0, 0, 0)]
set_option maxRecDepth 100000 in
theorem ok_X8_isPlace : k_X8_isPlace.all (gl_ok1 gl_mn m_X8_isPlace) = true := by decide +kernel
def k_X8_dropNotes : List (Nat × gl_O) := [(0, .aload_n 0, 0, 0, 0, 0), (1, .iconst 0, 0, 0, 0, 0), (2, .putfield 15, 8, 1, 201, 0), (5, .aload_n 0, 0, 0, 0, 0), (6, .dup, 0, 0, 0, 0), (7, .getfield 19, 8, 2, 206, 0), (10, .iconst 1, 0, 0, 0, 1), (11, .iadd, 0, 0, 0, 0), (12, .putfield 19, 8, 2, 206, 0), (15, .return_, 0, 0, 0, 0)]
set_option maxRecDepth 100000 in
theorem ok_X8_dropNotes : k_X8_dropNotes.all (gl_ok1 gl_mn m_X8_dropNotes) = true := by decide +kernel
def k_X8_append : List (Nat × gl_O) := [(0, .aload_n 0, 0, 0, 0, 0), (1, .getfield 9, 8, 0, 196, 0), (4, .aload_n 0, 0, 0, 0, 0), (5, .getfield 15, 8, 1, 201, 0), (8, .iload_n 1, 0, 0, 0, 0), (9, .iastore, 0, 0, 0, 0), (10, .aload_n 0, 0, 0, 0, 0), (11, .dup, 0, 0, 0, 0), (12, .getfield 15, 8, 1, 201, 0), (15, .iconst 1, 0, 0, 0, 1), (16, .iadd, 0, 0, 0, 0), (17, .putfield 15, 8, 1, 201, 0), (20, .aload_n 0, 0, 0, 0, 0), (21, .dup, 0, 0, 0, 0), (22, .getfield 19, 8, 2, 206, 0), (25, .iconst 1, 0, 0, 0, 1), (26, .iadd, 0, 0, 0, 0), (27, .putfield 19, 8, 2, 206, 0), (30, .return_, 0, 0, 0, 0)]
set_option maxRecDepth 100000 in
theorem ok_X8_append : k_X8_append.all (gl_ok1 gl_mn m_X8_append) = true := by decide +kernel
def k_X8_removeLast : List (Nat × gl_O) := [(0, .aload_n 0, 0, 0, 0, 0), (1, .dup, 0, 0, 0, 0), (2, .getfield 15, 8, 1, 201, 0), (5, .iconst 1, 0, 0, 0, 1), (6, .isub, 0, 0, 0, 0), (7, .putfield 15, 8, 1, 201, 0), (10, .aload_n 0, 0, 0, 0, 0), (11, .dup, 0, 0, 0, 0), (12, .getfield 19, 8, 2, 206, 0), (15, .iconst 1, 0, 0, 0, 1), (16, .iadd, 0, 0, 0, 0), (17, .putfield 19, 8, 2, 206, 0), (20, .aload_n 0, 0, 0, 0, 0), (21, .getfield 9, 8, 0, 196, 0), (24, .aload_n 0, 0, 0, 0, 0), (25, .getfield 15, 8, 1, 201, 0), (28, .iaload, 0, 0, 0, 0), (29, .ireturn, 0, 0, 0, 0)]
set_option maxRecDepth 100000 in
theorem ok_X8_removeLast : k_X8_removeLast.all (gl_ok1 gl_mn m_X8_removeLast) = true := by decide +kernel
def k_X8_replace : List (Nat × gl_O) := [(0, .aload_n 0, 0, 0, 0, 0), (1, .getfield 9, 8, 0, 196, 0), (4, .iload_n 1, 0, 0, 0, 0), (5, .iaload, 0, 0, 0, 0), (6, .istore_n 3, 0, 0, 0, 0), (7, .aload_n 0, 0, 0, 0, 0), (8, .getfield 9, 8, 0, 196, 0), (11, .iload_n 1, 0, 0, 0, 0), (12, .iload_n 2, 0, 0, 0, 0), (13, .iastore, 0, 0, 0, 0), (14, .aload_n 0, 0, 0, 0, 0), (15, .dup, 0, 0, 0, 0), (16, .getfield 19, 8, 2, 206, 0), (19, .iconst 1, 0, 0, 0, 1), (20, .iadd, 0, 0, 0, 0), (21, .putfield 19, 8, 2, 206, 0), (24, .iload_n 3, 0, 0, 0, 0), (25, .ireturn, 0, 0, 0, 0)]
set_option maxRecDepth 100000 in
theorem ok_X8_replace : k_X8_replace.all (gl_ok1 gl_mn m_X8_replace) = true := by decide +kernel
def k_X8_canShift : List (Nat × gl_O) := [(0, .iconst 0, 0, 0, 0, 0), (1, .istore_n 2, 0, 0, 0, 0), (2, .iload_n 2, 0, 0, 0, 0), (3, .aload_n 0, 0, 0, 0, 0), (4, .getfield 15, 8, 1, 201, 0), (7, .if_icmp .ge 28, 0, 0, 0, 0), (10, .aload_n 0, 0, 0, 0, 0), (11, .getfield 9, 8, 0, 196, 0), (14, .iload_n 2, 0, 0, 0, 0), (15, .iaload, 0, 0, 0, 0), (16, .iload_n 1, 0, 0, 0, 0), (17, .iadd, 0, 0, 0, 0), (18, .iconst 0, 0, 0, 0, 0), (19, .bipush 60, 0, 0, 0, 60), (21, .invokestatic 22, 0, 28, 539, 0), (24, .ifCond .ne 5, 0, 0, 0, 0), (27, .iconst 0, 0, 0, 0, 0), (28, .ireturn, 0, 0, 0, 0), (29, .iinc 2 1, 0, 0, 0, 1), (32, .goto (-30), 0, 0, 0, 0), (35, .iconst 1, 0, 0, 0, 1), (36, .ireturn, 0, 0, 0, 0)]
set_option maxRecDepth 100000 in
theorem ok_X8_canShift : k_X8_canShift.all (gl_ok1 gl_mn m_X8_canShift) = true := by decide +kernel
def k_X8_shift : List (Nat × gl_O) := [(0, .iconst 0, 0, 0, 0, 0), (1, .istore_n 2, 0, 0, 0, 0), (2, .iload_n 2, 0, 0, 0, 0), (3, .aload_n 0, 0, 0, 0, 0), (4, .getfield 15, 8, 1, 201, 0), (7, .if_icmp .ge 19, 0, 0, 0, 0), (10, .aload_n 0, 0, 0, 0, 0), (11, .getfield 9, 8, 0, 196, 0), (14, .iload_n 2, 0, 0, 0, 0), (15, .dup2, 0, 0, 0, 0), (16, .iaload, 0, 0, 0, 0), (17, .iload_n 1, 0, 0, 0, 0), (18, .iadd, 0, 0, 0, 0), (19, .iastore, 0, 0, 0, 0), (20, .iinc 2 1, 0, 0, 0, 1), (23, .goto (-21), 0, 0, 0, 0), (26, .aload_n 0, 0, 0, 0, 0), (27, .dup, 0, 0, 0, 0), (28, .getfield 19, 8, 2, 206, 0), (31, .iconst 1, 0, 0, 0, 1), (32, .iadd, 0, 0, 0, 0), (33, .putfield 19, 8, 2, 206, 0), (36, .return_, 0, 0, 0, 0)]
set_option maxRecDepth 100000 in
theorem ok_X8_shift : k_X8_shift.all (gl_ok1 gl_mn m_X8_shift) = true := by decide +kernel
def k_X9_init : List (Nat × gl_O) := [(0, .aload_n 0, 0, 0, 0, 0), (1, .invokespecial 3, 3, 0, 273, 0), (4, .aload_n 0, 0, 0, 0, 0), (5, .sipush 144, 0, 0, 0, 144), (8, .newarray .int, 0, 0, 0, 0), (10, .putfield 9, 9, 1, 275, 0), (13, .aload_n 0, 0, 0, 0, 0), (14, .sipush 144, 0, 0, 0, 144), (17, .newarray .int, 0, 0, 0, 0), (19, .putfield 15, 9, 2, 277, 0), (22, .aload_n 0, 0, 0, 0, 0), (23, .iconst 0, 0, 0, 0, 0), (24, .putfield 18, 9, 3, 278, 0), (27, .aload_n 0, 0, 0, 0, 0), (28, .iconst (-1), 0, 0, 0, (-1)), (29, .putfield 22, 9, 4, 279, 0), (32, .aload_n 0, 0, 0, 0, 0), (33, .aload_n 1, 0, 0, 0, 0), (34, .putfield 25, 9, 0, 274, 0), (37, .return_, 0, 0, 0, 0)]
set_option maxRecDepth 100000 in
theorem ok_X9_init : k_X9_init.all (gl_ok1 gl_mn m_X9_init) = true := by decide +kernel
def k_X9_dropMeasures : List (Nat × gl_O) := [(0, .aload_n 0, 0, 0, 0, 0), (1, .iconst (-1), 0, 0, 0, (-1)), (2, .putfield 22, 9, 4, 279, 0), (5, .return_, 0, 0, 0, 0)]
set_option maxRecDepth 100000 in
theorem ok_X9_dropMeasures : k_X9_dropMeasures.all (gl_ok1 gl_mn m_X9_dropMeasures) = true := by decide +kernel
def k_X9_measureFrom : List (Nat × gl_O) := [(0, .aload_n 0, 0, 0, 0, 0), (1, .getfield 22, 9, 4, 279, 0), (4, .iload_n 1, 0, 0, 0, 0), (5, .if_icmp .ne 4, 0, 0, 0, 0), (8, .return_, 0, 0, 0, 0), (9, .aload_n 0, 0, 0, 0, 0), (10, .iload_n 1, 0, 0, 0, 0), (11, .putfield 22, 9, 4, 279, 0), (14, .aload_n 0, 0, 0, 0, 0), (15, .getfield 9, 9, 1, 275, 0), (18, .iconst 0, 0, 0, 0, 0), (19, .invokestatic 29, 0, 161, 587, 0), (22, .aload_n 0, 0, 0, 0, 0), (23, .iconst 0, 0, 0, 0, 0), (24, .putfield 18, 9, 3, 278, 0), (27, .aload_n 0, 0, 0, 0, 0), (28, .iload_n 1, 0, 0, 0, 0), (29, .iconst 1, 0, 0, 0, 1), (30, .invokevirtual 35, 0, 155, 588, 0), (33, .iconst 0, 0, 0, 0, 0), (34, .istore_n 2, 0, 0, 0, 0), (35, .iload_n 2, 0, 0, 0, 0), (36, .aload_n 0, 0, 0, 0, 0), (37, .getfield 18, 9, 3, 278, 0), (40, .if_icmp .ge 52, 0, 0, 0, 0), (43, .iload_n 2, 0, 0, 0, 0), (44, .sipush 144, 0, 0, 0, 144), (47, .if_icmp .ge 45, 0, 0, 0, 0), (50, .iconst 0, 0, 0, 0, 0), (51, .istore_n 3, 0, 0, 0, 0), (52, .iload_n 3, 0, 0, 0, 0), (53, .aload_n 0, 0, 0, 0, 0), (54, .getfield 25, 9, 0, 274, 0), (57, .aload_n 0, 0, 0, 0, 0), (58, .getfield 15, 9, 2, 277, 0), (61, .iload_n 2, 0, 0, 0, 0), (62, .iaload, 0, 0, 0, 0), (63, .invokevirtual 39, 0, 96, 591, 0), (66, .if_icmp .ge 20, 0, 0, 0, 0), (69, .aload_n 0, 0, 0, 0, 0), (70, .aload_n 0, 0, 0, 0, 0), (71, .getfield 15, 9, 2, 277, 0), (74, .iload_n 2, 0, 0, 0, 0), (75, .iaload, 0, 0, 0, 0), (76, .iload_n 3, 0, 0, 0, 0), (77, .invokevirtual 45, 0, 154, 592, 0), (80, .iinc 3 1, 0, 0, 0, 1), (83, .goto (-31), 0, 0, 0, 0), (86, .iinc 2 1, 0, 0, 0, 1), (89, .goto (-54), 0, 0, 0, 0), (92, .return_, 0, 0, 0, 0)]
set_option maxRecDepth 100000 in
theorem ok_X9_measureFrom : k_X9_measureFrom.all (gl_ok1 gl_mn m_X9_measureFrom) = true := by decide +kernel
def k_X9_enqueueSharers : List (Nat × gl_O) := [(0, .aload_n 0, 0, 0, 0, 0), (1, .getfield 25, 9, 0, 274, 0), (4, .iload_n 1, 0, 0, 0, 0), (5, .iload_n 2, 0, 0, 0, 0), (6, .invokevirtual 48, 0, 97, 595, 0), (9, .istore_n 3, 0, 0, 0, 0), (10, .aload_n 0, 0, 0, 0, 0), (11, .getfield 25, 9, 0, 274, 0), (14, .iload_n 1, 0, 0, 0, 0), (15, .iload_n 2, 0, 0, 0, 0), (16, .invokevirtual 52, 0, 98, 596, 0), (19, .istore 4, 0, 0, 0, 0), (21, .iconst 0, 0, 0, 0, 0), (22, .istore 5, 0, 0, 0, 0), (24, .iload 5, 0, 0, 0, 0), (26, .aload_n 0, 0, 0, 0, 0), (27, .getfield 25, 9, 0, 274, 0), (30, .getfield 55, 0, 5, 144, 0), (33, .if_icmp .ge 103, 0, 0, 0, 0), (36, .iconst 0, 0, 0, 0, 0), (37, .istore 6, 0, 0, 0, 0), (39, .iload 6, 0, 0, 0, 0), (41, .aload_n 0, 0, 0, 0, 0), (42, .getfield 25, 9, 0, 274, 0), (45, .getfield 58, 0, 6, 147, 0), (48, .iload 5, 0, 0, 0, 0), (50, .iaload, 0, 0, 0, 0), (51, .if_icmp .ge 79, 0, 0, 0, 0), (54, .iload 4, 0, 0, 0, 0), (56, .aload_n 0, 0, 0, 0, 0), (57, .getfield 25, 9, 0, 274, 0), (60, .getfield 61, 0, 8, 151, 0), (63, .iload 5, 0, 0, 0, 0), (65, .iconst 4, 0, 0, 0, 4), (66, .imul, 0, 0, 0, 0), (67, .iload 6, 0, 0, 0, 0), (69, .iadd, 0, 0, 0, 0), (70, .iaload, 0, 0, 0, 0), (71, .isub, 0, 0, 0, 0), (72, .istore 7, 0, 0, 0, 0), (74, .aload_n 0, 0, 0, 0, 0), (75, .getfield 25, 9, 0, 274, 0), (78, .getfield 64, 0, 7, 149, 0), (81, .iload 5, 0, 0, 0, 0), (83, .iconst 4, 0, 0, 0, 4), (84, .imul, 0, 0, 0, 0), (85, .iload 6, 0, 0, 0, 0), (87, .iadd, 0, 0, 0, 0), (88, .iaload, 0, 0, 0, 0), (89, .iload_n 3, 0, 0, 0, 0), (90, .if_icmp .ne 34, 0, 0, 0, 0), (93, .iload 7, 0, 0, 0, 0), (95, .iconst 0, 0, 0, 0, 0), (96, .bipush 23, 0, 0, 0, 23), (98, .invokestatic 67, 0, 28, 597, 0), (101, .ifCond .eq 23, 0, 0, 0, 0), (104, .aload_n 0, 0, 0, 0, 0), (105, .iload 5, 0, 0, 0, 0), (107, .bipush 24, 0, 0, 0, 24), (109, .imul, 0, 0, 0, 0), (110, .iload 7, 0, 0, 0, 0), (112, .iadd, 0, 0, 0, 0), (113, .aload_n 0, 0, 0, 0, 0), (114, .getfield 9, 9, 1, 275, 0), (117, .iload_n 1, 0, 0, 0, 0), (118, .iaload, 0, 0, 0, 0), (119, .iconst 1, 0, 0, 0, 1), (120, .iadd, 0, 0, 0, 0), (121, .invokevirtual 35, 0, 155, 588, 0), (124, .iinc 6 1, 0, 0, 0, 1), (127, .goto (-88), 0, 0, 0, 0), (130, .iinc 5 1, 0, 0, 0, 1), (133, .goto (-109), 0, 0, 0, 0), (136, .return_, 0, 0, 0, 0)]
set_option maxRecDepth 100000 in
theorem ok_X9_enqueueSharers : k_X9_enqueueSharers.all (gl_ok1 gl_mn m_X9_enqueueSharers) = true := by decide +kernel
end
section
def k_X9_enqueue : List (Nat × gl_O) := [(0, .aload_n 0, 0, 0, 0, 0), (1, .getfield 9, 9, 1, 275, 0), (4, .iload_n 1, 0, 0, 0, 0), (5, .iaload, 0, 0, 0, 0), (6, .ifCond .ne 40, 0, 0, 0, 0), (9, .aload_n 0, 0, 0, 0, 0), (10, .getfield 18, 9, 3, 278, 0), (13, .sipush 144, 0, 0, 0, 144), (16, .if_icmp .ge 30, 0, 0, 0, 0), (19, .aload_n 0, 0, 0, 0, 0), (20, .getfield 9, 9, 1, 275, 0), (23, .iload_n 1, 0, 0, 0, 0), (24, .iload_n 2, 0, 0, 0, 0), (25, .iastore, 0, 0, 0, 0), (26, .aload_n 0, 0, 0, 0, 0), (27, .getfield 15, 9, 2, 277, 0), (30, .aload_n 0, 0, 0, 0, 0), (31, .getfield 18, 9, 3, 278, 0), (34, .iload_n 1, 0, 0, 0, 0), (35, .iastore, 0, 0, 0, 0), (36, .aload_n 0, 0, 0, 0, 0), (37, .dup, 0, 0, 0, 0), (38, .getfield 18, 9, 3, 278, 0), (41, .iconst 1, 0, 0, 0, 1), (42, .iadd, 0, 0, 0, 0), (43, .putfield 18, 9, 3, 278, 0), (46, .return_, 0, 0, 0, 0)]
set_option maxRecDepth 100000 in
theorem ok_X9_enqueue : k_X9_enqueue.all (gl_ok1 gl_mn m_X9_enqueue) = true := by decide +kernel
def k_X9_walk : List (Nat × gl_O) := [(0, .iload_n 1, 0, 0, 0, 0), (1, .istore_n 3, 0, 0, 0, 0), (2, .iconst 0, 0, 0, 0, 0), (3, .istore 4, 0, 0, 0, 0), (5, .iload 4, 0, 0, 0, 0), (7, .iload_n 2, 0, 0, 0, 0), (8, .if_icmp .ge 15, 0, 0, 0, 0), (11, .aload_n 0, 0, 0, 0, 0), (12, .iload_n 3, 0, 0, 0, 0), (13, .invokevirtual 71, 0, 157, 601, 0), (16, .istore_n 3, 0, 0, 0, 0), (17, .iinc 4 1, 0, 0, 0, 1), (20, .goto (-15), 0, 0, 0, 0), (23, .iload_n 3, 0, 0, 0, 0), (24, .ireturn, 0, 0, 0, 0)]
set_option maxRecDepth 100000 in
theorem ok_X9_walk : k_X9_walk.all (gl_ok1 gl_mn m_X9_walk) = true := by decide +kernel
def k_X9_lowestNearer : List (Nat × gl_O) := [(0, .iconst 0, 0, 0, 0, 0), (1, .istore_n 2, 0, 0, 0, 0), (2, .iload_n 2, 0, 0, 0, 0), (3, .aload_n 0, 0, 0, 0, 0), (4, .getfield 25, 9, 0, 274, 0), (7, .invokevirtual 74, 0, 94, 604, 0), (10, .if_icmp .ge 46, 0, 0, 0, 0), (13, .aload_n 0, 0, 0, 0, 0), (14, .getfield 9, 9, 1, 275, 0), (17, .iload_n 2, 0, 0, 0, 0), (18, .iaload, 0, 0, 0, 0), (19, .aload_n 0, 0, 0, 0, 0), (20, .getfield 9, 9, 1, 275, 0), (23, .iload_n 1, 0, 0, 0, 0), (24, .iaload, 0, 0, 0, 0), (25, .iconst 1, 0, 0, 0, 1), (26, .isub, 0, 0, 0, 0), (27, .if_icmp .ne 23, 0, 0, 0, 0), (30, .aload_n 0, 0, 0, 0, 0), (31, .getfield 9, 9, 1, 275, 0), (34, .iload_n 2, 0, 0, 0, 0), (35, .iaload, 0, 0, 0, 0), (36, .ifCond .le 14, 0, 0, 0, 0), (39, .aload_n 0, 0, 0, 0, 0), (40, .iload_n 1, 0, 0, 0, 0), (41, .iload_n 2, 0, 0, 0, 0), (42, .invokevirtual 78, 0, 158, 605, 0), (45, .ifCond .eq 5, 0, 0, 0, 0), (48, .iload_n 2, 0, 0, 0, 0), (49, .ireturn, 0, 0, 0, 0), (50, .iinc 2 1, 0, 0, 0, 1), (53, .goto (-51), 0, 0, 0, 0), (56, .iload_n 1, 0, 0, 0, 0), (57, .ireturn, 0, 0, 0, 0)]
set_option maxRecDepth 100000 in
theorem ok_X9_lowestNearer : k_X9_lowestNearer.all (gl_ok1 gl_mn m_X9_lowestNearer) = true := by decide +kernel
def k_X9_sharesSome : List (Nat × gl_O) := [(0, .iconst 0, 0, 0, 0, 0), (1, .istore_n 3, 0, 0, 0, 0), (2, .iload_n 3, 0, 0, 0, 0), (3, .aload_n 0, 0, 0, 0, 0), (4, .getfield 25, 9, 0, 274, 0), (7, .iload_n 1, 0, 0, 0, 0), (8, .invokevirtual 39, 0, 96, 591, 0), (11, .if_icmp .ge 25, 0, 0, 0, 0), (14, .aload_n 0, 0, 0, 0, 0), (15, .getfield 25, 9, 0, 274, 0), (18, .iload_n 1, 0, 0, 0, 0), (19, .iload_n 3, 0, 0, 0, 0), (20, .iload_n 2, 0, 0, 0, 0), (21, .invokevirtual 82, 0, 102, 608, 0), (24, .iconst (-1), 0, 0, 0, (-1)), (25, .if_icmp .eq 5, 0, 0, 0, 0), (28, .iconst 1, 0, 0, 0, 1), (29, .ireturn, 0, 0, 0, 0), (30, .iinc 3 1, 0, 0, 0, 1), (33, .goto (-31), 0, 0, 0, 0), (36, .iconst 0, 0, 0, 0, 0), (37, .ireturn, 0, 0, 0, 0)]
set_option maxRecDepth 100000 in
theorem ok_X9_sharesSome : k_X9_sharesSome.all (gl_ok1 gl_mn m_X9_sharesSome) = true := by decide +kernel
def k_X9_mostDistant : List (Nat × gl_O) := [(0, .iconst 0, 0, 0, 0, 0), (1, .istore_n 1, 0, 0, 0, 0), (2, .iconst 1, 0, 0, 0, 1), (3, .istore_n 2, 0, 0, 0, 0), (4, .iload_n 2, 0, 0, 0, 0), (5, .aload_n 0, 0, 0, 0, 0), (6, .getfield 25, 9, 0, 274, 0), (9, .invokevirtual 74, 0, 94, 604, 0), (12, .if_icmp .ge 26, 0, 0, 0, 0), (15, .aload_n 0, 0, 0, 0, 0), (16, .getfield 9, 9, 1, 275, 0), (19, .iload_n 2, 0, 0, 0, 0), (20, .iaload, 0, 0, 0, 0), (21, .aload_n 0, 0, 0, 0, 0), (22, .getfield 9, 9, 1, 275, 0), (25, .iload_n 1, 0, 0, 0, 0), (26, .iaload, 0, 0, 0, 0), (27, .if_icmp .le 5, 0, 0, 0, 0), (30, .iload_n 2, 0, 0, 0, 0), (31, .istore_n 1, 0, 0, 0, 0), (32, .iinc 2 1, 0, 0, 0, 1), (35, .goto (-31), 0, 0, 0, 0), (38, .iload_n 1, 0, 0, 0, 0), (39, .ireturn, 0, 0, 0, 0)]
set_option maxRecDepth 100000 in
theorem ok_X9_mostDistant : k_X9_mostDistant.all (gl_ok1 gl_mn m_X9_mostDistant) = true := by decide +kernel
def k_L_law : List (Nat × gl_O) := [(0, .new 7, 10, 0, 104, 0), (3, .dup, 0, 0, 0, 0), (4, .invokespecial 9, 0, 0, 106, 0), (7, .astore_n 1, 0, 0, 0, 0), (8, .new 10, 11, 0, 739, 0), (11, .dup, 0, 0, 0, 0), (12, .invokespecial 12, 0, 32, 741, 0), (15, .astore_n 2, 0, 0, 0, 0), (16, .iconst 0, 0, 0, 0, 0), (17, .istore_n 3, 0, 0, 0, 0), (18, .iload_n 3, 0, 0, 0, 0), (19, .aload_n 0, 0, 0, 0, 0), (20, .arraylength, 0, 0, 0, 0), (21, .iconst 4, 0, 0, 0, 4), (22, .isub, 0, 0, 0, 0), (23, .if_icmp .gt 773, 0, 0, 0, 0), (26, .aload_n 0, 0, 0, 0, 0), (27, .iload_n 3, 0, 0, 0, 0), (28, .iaload, 0, 0, 0, 0), (29, .bipush 31, 0, 0, 0, 31), (31, .iand, 0, 0, 0, 0), (152, .aload_n 1, 0, 0, 0, 0), (153, .aload_n 0, 0, 0, 0, 0), (154, .iload_n 3, 0, 0, 0, 0), (155, .iconst 1, 0, 0, 0, 1), (156, .iadd, 0, 0, 0, 0), (157, .iaload, 0, 0, 0, 0), (158, .invokevirtual 13, 0, 1, 387, 0), (161, .aload_n 2, 0, 0, 0, 0), (162, .aload_n 0, 0, 0, 0, 0), (163, .iload_n 3, 0, 0, 0, 0), (164, .iconst 1, 0, 0, 0, 1), (165, .iadd, 0, 0, 0, 0), (166, .iaload, 0, 0, 0, 0), (167, .invokevirtual 17, 0, 36, 833, 0), (170, .if_icmp .eq 620, 0, 0, 0, 0), (173, .iconst 0, 0, 0, 0, 0), (174, .ireturn, 0, 0, 0, 0), (175, .aload_n 1, 0, 0, 0, 0), (176, .invokevirtual 18, 0, 2, 397, 0), (179, .aload_n 2, 0, 0, 0, 0), (180, .invokevirtual 22, 0, 37, 840, 0), (183, .if_icmp .eq 607, 0, 0, 0, 0), (186, .iconst 0, 0, 0, 0, 0), (187, .ireturn, 0, 0, 0, 0), (188, .aload_n 1, 0, 0, 0, 0), (189, .invokevirtual 23, 0, 3, 401, 0), (192, .aload_n 2, 0, 0, 0, 0), (193, .invokevirtual 26, 0, 44, 844, 0), (196, .if_icmp .eq 594, 0, 0, 0, 0), (199, .iconst 0, 0, 0, 0, 0), (200, .ireturn, 0, 0, 0, 0), (201, .aload_n 1, 0, 0, 0, 0), (202, .aload_n 0, 0, 0, 0, 0), (203, .iload_n 3, 0, 0, 0, 0), (204, .iconst 1, 0, 0, 0, 1), (205, .iadd, 0, 0, 0, 0), (206, .iaload, 0, 0, 0, 0), (207, .aload_n 0, 0, 0, 0, 0), (208, .iload_n 3, 0, 0, 0, 0), (209, .iconst 2, 0, 0, 0, 2), (210, .iadd, 0, 0, 0, 0), (211, .iaload, 0, 0, 0, 0), (212, .invokevirtual 27, 0, 4, 475, 0), (215, .aload_n 2, 0, 0, 0, 0), (216, .aload_n 0, 0, 0, 0, 0), (217, .iload_n 3, 0, 0, 0, 0), (218, .iconst 1, 0, 0, 0, 1), (219, .iadd, 0, 0, 0, 0), (220, .iaload, 0, 0, 0, 0), (221, .aload_n 0, 0, 0, 0, 0), (222, .iload_n 3, 0, 0, 0, 0), (223, .iconst 2, 0, 0, 0, 2), (224, .iadd, 0, 0, 0, 0), (225, .iaload, 0, 0, 0, 0), (226, .invokevirtual 31, 0, 53, 869, 0), (229, .if_icmp .eq 561, 0, 0, 0, 0), (232, .iconst 0, 0, 0, 0, 0), (233, .ireturn, 0, 0, 0, 0), (234, .aload_n 1, 0, 0, 0, 0), (235, .aload_n 0, 0, 0, 0, 0), (236, .iload_n 3, 0, 0, 0, 0), (237, .iconst 1, 0, 0, 0, 1), (238, .iadd, 0, 0, 0, 0), (239, .iaload, 0, 0, 0, 0), (240, .aload_n 0, 0, 0, 0, 0), (241, .iload_n 3, 0, 0, 0, 0), (242, .iconst 2, 0, 0, 0, 2), (243, .iadd, 0, 0, 0, 0), (244, .iaload, 0, 0, 0, 0), (245, .aload_n 0, 0, 0, 0, 0), (246, .iload_n 3, 0, 0, 0, 0), (247, .iconst 3, 0, 0, 0, 3), (248, .iadd, 0, 0, 0, 0), (249, .iaload, 0, 0, 0, 0), (250, .invokevirtual 32, 0, 5, 482, 0), (253, .aload_n 2, 0, 0, 0, 0), (254, .aload_n 0, 0, 0, 0, 0), (255, .iload_n 3, 0, 0, 0, 0), (256, .iconst 1, 0, 0, 0, 1), (257, .iadd, 0, 0, 0, 0), (258, .iaload, 0, 0, 0, 0), (259, .aload_n 0, 0, 0, 0, 0), (260, .iload_n 3, 0, 0, 0, 0), (261, .iconst 2, 0, 0, 0, 2), (262, .iadd, 0, 0, 0, 0), (263, .iaload, 0, 0, 0, 0), (264, .aload_n 0, 0, 0, 0, 0), (265, .iload_n 3, 0, 0, 0, 0), (266, .iconst 3, 0, 0, 0, 3), (267, .iadd, 0, 0, 0, 0), (268, .iaload, 0, 0, 0, 0), (269, .invokevirtual 36, 0, 54, 873, 0), (272, .if_icmp .eq 518, 0, 0, 0, 0), (275, .iconst 0, 0, 0, 0, 0), (276, .ireturn, 0, 0, 0, 0), (277, .aload_n 1, 0, 0, 0, 0), (278, .aload_n 0, 0, 0, 0, 0), (279, .iload_n 3, 0, 0, 0, 0), (280, .iconst 1, 0, 0, 0, 1), (281, .iadd, 0, 0, 0, 0), (282, .iaload, 0, 0, 0, 0), (283, .invokevirtual 37, 0, 6, 501, 0), (286, .aload_n 2, 0, 0, 0, 0), (287, .aload_n 0, 0, 0, 0, 0), (288, .iload_n 3, 0, 0, 0, 0), (289, .iconst 1, 0, 0, 0, 1), (290, .iadd, 0, 0, 0, 0), (291, .iaload, 0, 0, 0, 0), (292, .invokevirtual 40, 0, 73, 965, 0), (295, .if_icmp .eq 495, 0, 0, 0, 0), (298, .iconst 0, 0, 0, 0, 0), (299, .ireturn, 0, 0, 0, 0), (300, .aload_n 1, 0, 0, 0, 0), (301, .invokevirtual 41, 0, 7, 515, 0), (304, .aload_n 2, 0, 0, 0, 0), (305, .invokevirtual 44, 0, 74, 972, 0), (308, .if_icmp .eq 482, 0, 0, 0, 0), (311, .iconst 0, 0, 0, 0, 0), (312, .ireturn, 0, 0, 0, 0), (313, .aload_n 1, 0, 0, 0, 0), (314, .aload_n 0, 0, 0, 0, 0), (315, .iload_n 3, 0, 0, 0, 0), (316, .iconst 1, 0, 0, 0, 1), (317, .iadd, 0, 0, 0, 0), (318, .iaload, 0, 0, 0, 0), (319, .aload_n 0, 0, 0, 0, 0), (320, .iload_n 3, 0, 0, 0, 0), (321, .iconst 2, 0, 0, 0, 2), (322, .iadd, 0, 0, 0, 0), (323, .iaload, 0, 0, 0, 0), (324, .invokevirtual 45, 0, 8, 522, 0), (327, .aload_n 2, 0, 0, 0, 0), (328, .aload_n 0, 0, 0, 0, 0), (329, .iload_n 3, 0, 0, 0, 0), (330, .iconst 1, 0, 0, 0, 1), (331, .iadd, 0, 0, 0, 0), (332, .iaload, 0, 0, 0, 0), (333, .aload_n 0, 0, 0, 0, 0), (334, .iload_n 3, 0, 0, 0, 0), (335, .iconst 2, 0, 0, 0, 2), (336, .iadd, 0, 0, 0, 0), (337, .iaload, 0, 0, 0, 0), (338, .invokevirtual 48, 0, 75, 976, 0), (341, .if_icmp .eq 449, 0, 0, 0, 0), (344, .iconst 0, 0, 0, 0, 0), (345, .ireturn, 0, 0, 0, 0), (346, .aload_n 1, 0, 0, 0, 0), (347, .aload_n 0, 0, 0, 0, 0), (348, .iload_n 3, 0, 0, 0, 0), (349, .iconst 1, 0, 0, 0, 1), (350, .iadd, 0, 0, 0, 0), (351, .iaload, 0, 0, 0, 0), (352, .invokevirtual 49, 0, 9, 532, 0), (355, .aload_n 2, 0, 0, 0, 0), (356, .aload_n 0, 0, 0, 0, 0), (357, .iload_n 3, 0, 0, 0, 0), (358, .iconst 1, 0, 0, 0, 1), (359, .iadd, 0, 0, 0, 0), (360, .iaload, 0, 0, 0, 0), (361, .invokevirtual 52, 0, 76, 980, 0), (364, .if_icmp .eq 426, 0, 0, 0, 0), (367, .iconst 0, 0, 0, 0, 0), (368, .ireturn, 0, 0, 0, 0), (369, .aload_n 1, 0, 0, 0, 0), (370, .invokevirtual 53, 0, 10, 543, 0), (373, .aload_n 2, 0, 0, 0, 0), (374, .invokevirtual 56, 0, 77, 984, 0), (377, .if_icmp .eq 413, 0, 0, 0, 0), (380, .iconst 0, 0, 0, 0, 0), (381, .ireturn, 0, 0, 0, 0), (382, .aload_n 1, 0, 0, 0, 0), (383, .aload_n 0, 0, 0, 0, 0), (384, .iload_n 3, 0, 0, 0, 0), (385, .iconst 1, 0, 0, 0, 1), (386, .iadd, 0, 0, 0, 0), (387, .iaload, 0, 0, 0, 0), (388, .invokevirtual 57, 0, 11, 553, 0), (391, .aload_n 2, 0, 0, 0, 0), (392, .aload_n 0, 0, 0, 0, 0), (393, .iload_n 3, 0, 0, 0, 0), (394, .iconst 1, 0, 0, 0, 1), (395, .iadd, 0, 0, 0, 0), (396, .iaload, 0, 0, 0, 0), (397, .invokevirtual 60, 0, 78, 988, 0), (400, .if_icmp .eq 390, 0, 0, 0, 0), (403, .iconst 0, 0, 0, 0, 0), (404, .ireturn, 0, 0, 0, 0), (405, .aload_n 1, 0, 0, 0, 0), (406, .aload_n 0, 0, 0, 0, 0), (407, .iload_n 3, 0, 0, 0, 0), (408, .iconst 1, 0, 0, 0, 1), (409, .iadd, 0, 0, 0, 0), (410, .iaload, 0, 0, 0, 0), (411, .aload_n 0, 0, 0, 0, 0), (412, .iload_n 3, 0, 0, 0, 0), (413, .iconst 2, 0, 0, 0, 2), (414, .iadd, 0, 0, 0, 0), (415, .iaload, 0, 0, 0, 0), (416, .invokevirtual 61, 0, 12, 557, 0), (419, .aload_n 2, 0, 0, 0, 0), (420, .aload_n 0, 0, 0, 0, 0), (421, .iload_n 3, 0, 0, 0, 0), (422, .iconst 1, 0, 0, 0, 1), (423, .iadd, 0, 0, 0, 0), (424, .iaload, 0, 0, 0, 0), (425, .aload_n 0, 0, 0, 0, 0), (426, .iload_n 3, 0, 0, 0, 0), (427, .iconst 2, 0, 0, 0, 2), (428, .iadd, 0, 0, 0, 0), (429, .iaload, 0, 0, 0, 0), (430, .invokevirtual 64, 0, 56, 889, 0), (433, .if_icmp .eq 357, 0, 0, 0, 0), (436, .iconst 0, 0, 0, 0, 0), (437, .ireturn, 0, 0, 0, 0), (438, .aload_n 1, 0, 0, 0, 0), (439, .aload_n 0, 0, 0, 0, 0), (440, .iload_n 3, 0, 0, 0, 0), (441, .iconst 1, 0, 0, 0, 1), (442, .iadd, 0, 0, 0, 0), (443, .iaload, 0, 0, 0, 0), (444, .aload_n 0, 0, 0, 0, 0), (445, .iload_n 3, 0, 0, 0, 0), (446, .iconst 2, 0, 0, 0, 2), (447, .iadd, 0, 0, 0, 0), (448, .iaload, 0, 0, 0, 0), (449, .aload_n 0, 0, 0, 0, 0), (450, .iload_n 3, 0, 0, 0, 0), (451, .iconst 3, 0, 0, 0, 3), (452, .iadd, 0, 0, 0, 0), (453, .iaload, 0, 0, 0, 0), (454, .invokevirtual 65, 0, 13, 570, 0), (457, .aload_n 2, 0, 0, 0, 0), (458, .aload_n 0, 0, 0, 0, 0), (459, .iload_n 3, 0, 0, 0, 0), (460, .iconst 1, 0, 0, 0, 1), (461, .iadd, 0, 0, 0, 0), (462, .iaload, 0, 0, 0, 0), (463, .aload_n 0, 0, 0, 0, 0), (464, .iload_n 3, 0, 0, 0, 0), (465, .iconst 2, 0, 0, 0, 2), (466, .iadd, 0, 0, 0, 0), (467, .iaload, 0, 0, 0, 0), (468, .aload_n 0, 0, 0, 0, 0), (469, .iload_n 3, 0, 0, 0, 0), (470, .iconst 3, 0, 0, 0, 3), (471, .iadd, 0, 0, 0, 0), (472, .iaload, 0, 0, 0, 0), (473, .invokevirtual 68, 0, 57, 902, 0), (476, .if_icmp .eq 314, 0, 0, 0, 0), (479, .iconst 0, 0, 0, 0, 0), (480, .ireturn, 0, 0, 0, 0), (481, .aload_n 1, 0, 0, 0, 0), (482, .aload_n 0, 0, 0, 0, 0), (483, .iload_n 3, 0, 0, 0, 0), (484, .iconst 1, 0, 0, 0, 1), (485, .iadd, 0, 0, 0, 0), (486, .iaload, 0, 0, 0, 0), (487, .aload_n 0, 0, 0, 0, 0), (488, .iload_n 3, 0, 0, 0, 0), (489, .iconst 2, 0, 0, 0, 2), (490, .iadd, 0, 0, 0, 0), (491, .iaload, 0, 0, 0, 0), (492, .aload_n 0, 0, 0, 0, 0), (493, .iload_n 3, 0, 0, 0, 0), (494, .iconst 3, 0, 0, 0, 3), (495, .iadd, 0, 0, 0, 0), (496, .iaload, 0, 0, 0, 0), (497, .invokevirtual 69, 0, 14, 580, 0), (500, .aload_n 2, 0, 0, 0, 0), (501, .aload_n 0, 0, 0, 0, 0), (502, .iload_n 3, 0, 0, 0, 0), (503, .iconst 1, 0, 0, 0, 1), (504, .iadd, 0, 0, 0, 0), (505, .iaload, 0, 0, 0, 0), (506, .aload_n 0, 0, 0, 0, 0), (507, .iload_n 3, 0, 0, 0, 0), (508, .iconst 2, 0, 0, 0, 2), (509, .iadd, 0, 0, 0, 0), (510, .iaload, 0, 0, 0, 0), (511, .aload_n 0, 0, 0, 0, 0), (512, .iload_n 3, 0, 0, 0, 0), (513, .iconst 3, 0, 0, 0, 3), (514, .iadd, 0, 0, 0, 0), (515, .iaload, 0, 0, 0, 0), (516, .invokevirtual 72, 0, 59, 909, 0), (519, .if_icmp .eq 271, 0, 0, 0, 0), (522, .iconst 0, 0, 0, 0, 0), (523, .ireturn, 0, 0, 0, 0), (524, .aload_n 1, 0, 0, 0, 0), (525, .aload_n 0, 0, 0, 0, 0), (526, .iload_n 3, 0, 0, 0, 0), (527, .iconst 1, 0, 0, 0, 1), (528, .iadd, 0, 0, 0, 0), (529, .iaload, 0, 0, 0, 0), (530, .aload_n 0, 0, 0, 0, 0), (531, .iload_n 3, 0, 0, 0, 0), (532, .iconst 2, 0, 0, 0, 2), (533, .iadd, 0, 0, 0, 0), (534, .iaload, 0, 0, 0, 0), (535, .invokevirtual 73, 0, 15, 609, 0), (538, .aload_n 2, 0, 0, 0, 0), (539, .aload_n 0, 0, 0, 0, 0), (540, .iload_n 3, 0, 0, 0, 0), (541, .iconst 1, 0, 0, 0, 1), (542, .iadd, 0, 0, 0, 0), (543, .iaload, 0, 0, 0, 0), (544, .aload_n 0, 0, 0, 0, 0), (545, .iload_n 3, 0, 0, 0, 0), (546, .iconst 2, 0, 0, 0, 2), (547, .iadd, 0, 0, 0, 0), (548, .iaload, 0, 0, 0, 0), (549, .invokevirtual 76, 0, 60, 919, 0), (552, .if_icmp .eq 238, 0, 0, 0, 0), (555, .iconst 0, 0, 0, 0, 0), (556, .ireturn, 0, 0, 0, 0), (557, .aload_n 1, 0, 0, 0, 0), (558, .aload_n 0, 0, 0, 0, 0), (559, .iload_n 3, 0, 0, 0, 0), (560, .iconst 1, 0, 0, 0, 1), (561, .iadd, 0, 0, 0, 0), (562, .iaload, 0, 0, 0, 0), (563, .invokevirtual 77, 0, 16, 616, 0), (566, .aload_n 2, 0, 0, 0, 0), (567, .aload_n 0, 0, 0, 0, 0), (568, .iload_n 3, 0, 0, 0, 0), (569, .iconst 1, 0, 0, 0, 1), (570, .iadd, 0, 0, 0, 0), (571, .iaload, 0, 0, 0, 0), (572, .invokevirtual 80, 0, 66, 923, 0), (575, .if_icmp .eq 215, 0, 0, 0, 0), (578, .iconst 0, 0, 0, 0, 0), (579, .ireturn, 0, 0, 0, 0), (580, .aload_n 1, 0, 0, 0, 0), (581, .aload_n 0, 0, 0, 0, 0), (582, .iload_n 3, 0, 0, 0, 0), (583, .iconst 1, 0, 0, 0, 1), (584, .iadd, 0, 0, 0, 0), (585, .iaload, 0, 0, 0, 0), (586, .aload_n 0, 0, 0, 0, 0), (587, .iload_n 3, 0, 0, 0, 0), (588, .iconst 2, 0, 0, 0, 2), (589, .iadd, 0, 0, 0, 0), (590, .iaload, 0, 0, 0, 0), (591, .invokevirtual 81, 0, 17, 681, 0), (594, .aload_n 2, 0, 0, 0, 0), (595, .aload_n 0, 0, 0, 0, 0), (596, .iload_n 3, 0, 0, 0, 0), (597, .iconst 1, 0, 0, 0, 1), (598, .iadd, 0, 0, 0, 0), (599, .iaload, 0, 0, 0, 0), (600, .aload_n 0, 0, 0, 0, 0), (601, .iload_n 3, 0, 0, 0, 0), (602, .iconst 2, 0, 0, 0, 2), (603, .iadd, 0, 0, 0, 0), (604, .iaload, 0, 0, 0, 0), (605, .invokevirtual 84, 0, 67, 943, 0), (608, .if_icmp .eq 182, 0, 0, 0, 0), (611, .iconst 0, 0, 0, 0, 0), (612, .ireturn, 0, 0, 0, 0), (613, .aload_n 1, 0, 0, 0, 0), (614, .invokevirtual 85, 0, 18, 687, 0), (617, .aload_n 2, 0, 0, 0, 0), (618, .invokevirtual 88, 0, 68, 950, 0), (621, .if_icmp .eq 169, 0, 0, 0, 0), (624, .iconst 0, 0, 0, 0, 0), (625, .ireturn, 0, 0, 0, 0), (626, .aload_n 1, 0, 0, 0, 0), (627, .aload_n 0, 0, 0, 0, 0), (628, .iload_n 3, 0, 0, 0, 0), (629, .iconst 1, 0, 0, 0, 1), (630, .iadd, 0, 0, 0, 0), (631, .iaload, 0, 0, 0, 0), (632, .invokevirtual 89, 0, 19, 691, 0), (635, .aload_n 2, 0, 0, 0, 0), (636, .aload_n 0, 0, 0, 0, 0), (637, .iload_n 3, 0, 0, 0, 0), (638, .iconst 1, 0, 0, 0, 1), (639, .iadd, 0, 0, 0, 0), (640, .iaload, 0, 0, 0, 0), (641, .invokevirtual 92, 0, 70, 954, 0), (644, .if_icmp .eq 146, 0, 0, 0, 0), (647, .iconst 0, 0, 0, 0, 0), (648, .ireturn, 0, 0, 0, 0), (649, .aload_n 1, 0, 0, 0, 0), (650, .invokevirtual 93, 0, 20, 698, 0), (653, .aload_n 2, 0, 0, 0, 0), (654, .invokevirtual 96, 0, 71, 961, 0), (657, .if_icmp .eq 133, 0, 0, 0, 0), (660, .iconst 0, 0, 0, 0, 0), (661, .ireturn, 0, 0, 0, 0), (662, .aload_n 1, 0, 0, 0, 0), (663, .aload_n 0, 0, 0, 0, 0), (664, .iload_n 3, 0, 0, 0, 0), (665, .iconst 1, 0, 0, 0, 1), (666, .iadd, 0, 0, 0, 0), (667, .iaload, 0, 0, 0, 0), (668, .aload_n 0, 0, 0, 0, 0), (669, .iload_n 3, 0, 0, 0, 0), (670, .iconst 2, 0, 0, 0, 2), (671, .iadd, 0, 0, 0, 0), (672, .iaload, 0, 0, 0, 0), (673, .invokevirtual 97, 0, 21, 703, 0), (676, .aload_n 2, 0, 0, 0, 0), (677, .aload_n 0, 0, 0, 0, 0), (678, .iload_n 3, 0, 0, 0, 0), (679, .iconst 1, 0, 0, 0, 1), (680, .iadd, 0, 0, 0, 0), (681, .iaload, 0, 0, 0, 0), (682, .aload_n 0, 0, 0, 0, 0), (683, .iload_n 3, 0, 0, 0, 0), (684, .iconst 2, 0, 0, 0, 2), (685, .iadd, 0, 0, 0, 0), (686, .iaload, 0, 0, 0, 0), (687, .invokevirtual 100, 0, 79, 992, 0), (690, .if_icmp .eq 100, 0, 0, 0, 0), (693, .iconst 0, 0, 0, 0, 0), (694, .ireturn, 0, 0, 0, 0), (695, .aload_n 1, 0, 0, 0, 0), (696, .invokevirtual 101, 0, 22, 710, 0), (699, .aload_n 2, 0, 0, 0, 0), (700, .invokevirtual 104, 0, 80, 996, 0), (703, .if_icmp .eq 87, 0, 0, 0, 0), (706, .iconst 0, 0, 0, 0, 0), (707, .ireturn, 0, 0, 0, 0), (708, .aload_n 1, 0, 0, 0, 0), (709, .invokevirtual 105, 0, 23, 714, 0), (712, .aload_n 2, 0, 0, 0, 0), (713, .invokevirtual 108, 0, 81, 1000, 0), (716, .if_icmp .eq 74, 0, 0, 0, 0), (719, .iconst 0, 0, 0, 0, 0), (720, .ireturn, 0, 0, 0, 0), (721, .aload_n 1, 0, 0, 0, 0), (722, .aload_n 0, 0, 0, 0, 0), (723, .iload_n 3, 0, 0, 0, 0), (724, .iconst 1, 0, 0, 0, 1), (725, .iadd, 0, 0, 0, 0), (726, .iaload, 0, 0, 0, 0), (727, .invokevirtual 109, 0, 24, 722, 0), (730, .aload_n 2, 0, 0, 0, 0), (731, .aload_n 0, 0, 0, 0, 0), (732, .iload_n 3, 0, 0, 0, 0), (733, .iconst 1, 0, 0, 0, 1), (734, .iadd, 0, 0, 0, 0), (735, .iaload, 0, 0, 0, 0), (736, .invokevirtual 112, 0, 82, 1004, 0), (739, .if_icmp .eq 51, 0, 0, 0, 0), (742, .iconst 0, 0, 0, 0, 0), (743, .ireturn, 0, 0, 0, 0), (744, .aload_n 1, 0, 0, 0, 0), (745, .aload_n 0, 0, 0, 0, 0), (746, .iload_n 3, 0, 0, 0, 0), (747, .iconst 1, 0, 0, 0, 1), (748, .iadd, 0, 0, 0, 0), (749, .iaload, 0, 0, 0, 0), (750, .invokevirtual 113, 0, 25, 727, 0), (753, .aload_n 2, 0, 0, 0, 0), (754, .aload_n 0, 0, 0, 0, 0), (755, .iload_n 3, 0, 0, 0, 0), (756, .iconst 1, 0, 0, 0, 1), (757, .iadd, 0, 0, 0, 0), (758, .iaload, 0, 0, 0, 0), (759, .invokevirtual 116, 0, 83, 1008, 0), (762, .if_icmp .eq 28, 0, 0, 0, 0), (765, .iconst 0, 0, 0, 0, 0), (766, .ireturn, 0, 0, 0, 0), (767, .aload_n 1, 0, 0, 0, 0), (768, .aload_n 0, 0, 0, 0, 0), (769, .iload_n 3, 0, 0, 0, 0), (770, .iconst 1, 0, 0, 0, 1), (771, .iadd, 0, 0, 0, 0), (772, .iaload, 0, 0, 0, 0), (773, .invokevirtual 117, 0, 26, 735, 0), (776, .aload_n 2, 0, 0, 0, 0), (777, .aload_n 0, 0, 0, 0, 0), (778, .iload_n 3, 0, 0, 0, 0), (779, .iconst 1, 0, 0, 0, 1), (780, .iadd, 0, 0, 0, 0), (781, .iaload, 0, 0, 0, 0), (782, .invokevirtual 120, 0, 84, 1012, 0), (785, .if_icmp .eq 5, 0, 0, 0, 0), (788, .iconst 0, 0, 0, 0, 0), (789, .ireturn, 0, 0, 0, 0), (790, .iinc 3 4, 0, 0, 0, 4), (793, .goto (-775), 0, 0, 0, 0), (796, .iconst 1, 0, 0, 0, 1), (797, .ireturn, 0, 0, 0, 0)]
set_option maxRecDepth 100000 in
theorem ok_L_law : k_L_law.all (gl_ok1 gl_mn m_L_law) = true := by decide +kernel
def k_J_fill : List (Nat × gl_O) := [(0, .iconst 0, 0, 0, 0, 0), (1, .istore_n 2, 0, 0, 0, 0), (2, .aload_n 0, 0, 0, 0, 0), (3, .arraylength, 0, 0, 0, 0), (4, .istore_n 3, 0, 0, 0, 0), (5, .iload_n 2, 0, 0, 0, 0), (6, .iload_n 3, 0, 0, 0, 0), (7, .if_icmp .ge 13, 0, 0, 0, 0), (10, .aload_n 0, 0, 0, 0, 0), (11, .iload_n 2, 0, 0, 0, 0), (12, .iload_n 1, 0, 0, 0, 0), (13, .iastore, 0, 0, 0, 0), (14, .iinc 2 1, 0, 0, 0, 1), (17, .goto (-12), 0, 0, 0, 0), (20, .return_, 0, 0, 0, 0)]
set_option maxRecDepth 100000 in
theorem ok_J_fill : k_J_fill.all (gl_ok1 gl_mn m_J_fill) = true := by decide +kernel
end
section
theorem mw_X10_init : gl_mw m_X10_init 0 := ⟨List.mem_of_getElem? (i := 108) (by decide +kernel), List.mem_of_getElem? (i := 89) (by decide +kernel), by decide +kernel, by decide +kernel⟩
theorem iw_X10_init : Cond.instanceMethod m_X10_init.1 ∈ gl_tb := List.mem_of_getElem? (i := 107) (by decide +kernel)
theorem mw_X10_type : gl_mw m_X10_type 1 := ⟨List.mem_of_getElem? (i := 390) (by decide +kernel), List.mem_of_getElem? (i := 89) (by decide +kernel), by decide +kernel, by decide +kernel⟩
theorem iw_X10_type : Cond.instanceMethod m_X10_type.1 ∈ gl_tb := List.mem_of_getElem? (i := 388) (by decide +kernel)
theorem lw_X10_type : Cond.selects m_X10_type.1.cls m_X10_type.1 m_X10_type.1 ∈ gl_tb := List.mem_of_getElem? (i := 389) (by decide +kernel)
theorem mw_X10_clear : gl_mw m_X10_clear 0 := ⟨List.mem_of_getElem? (i := 400) (by decide +kernel), List.mem_of_getElem? (i := 89) (by decide +kernel), by decide +kernel, by decide +kernel⟩
theorem iw_X10_clear : Cond.instanceMethod m_X10_clear.1 ∈ gl_tb := List.mem_of_getElem? (i := 398) (by decide +kernel)
theorem lw_X10_clear : Cond.selects m_X10_clear.1.cls m_X10_clear.1 m_X10_clear.1 ∈ gl_tb := List.mem_of_getElem? (i := 399) (by decide +kernel)
theorem mw_X10_modes : gl_mw m_X10_modes 0 := ⟨List.mem_of_getElem? (i := 404) (by decide +kernel), List.mem_of_getElem? (i := 89) (by decide +kernel), by decide +kernel, by decide +kernel⟩
theorem iw_X10_modes : Cond.instanceMethod m_X10_modes.1 ∈ gl_tb := List.mem_of_getElem? (i := 402) (by decide +kernel)
theorem lw_X10_modes : Cond.selects m_X10_modes.1.cls m_X10_modes.1 m_X10_modes.1 ∈ gl_tb := List.mem_of_getElem? (i := 403) (by decide +kernel)
theorem mw_X10_cell : gl_mw m_X10_cell 2 := ⟨List.mem_of_getElem? (i := 478) (by decide +kernel), List.mem_of_getElem? (i := 89) (by decide +kernel), by decide +kernel, by decide +kernel⟩
theorem iw_X10_cell : Cond.instanceMethod m_X10_cell.1 ∈ gl_tb := List.mem_of_getElem? (i := 476) (by decide +kernel)
theorem lw_X10_cell : Cond.selects m_X10_cell.1.cls m_X10_cell.1 m_X10_cell.1 ∈ gl_tb := List.mem_of_getElem? (i := 477) (by decide +kernel)
theorem mw_X10_part : gl_mw m_X10_part 3 := ⟨List.mem_of_getElem? (i := 485) (by decide +kernel), List.mem_of_getElem? (i := 89) (by decide +kernel), by decide +kernel, by decide +kernel⟩
theorem iw_X10_part : Cond.instanceMethod m_X10_part.1 ∈ gl_tb := List.mem_of_getElem? (i := 483) (by decide +kernel)
theorem lw_X10_part : Cond.selects m_X10_part.1.cls m_X10_part.1 m_X10_part.1 ∈ gl_tb := List.mem_of_getElem? (i := 484) (by decide +kernel)
theorem mw_X10_plays : gl_mw m_X10_plays 1 := ⟨List.mem_of_getElem? (i := 504) (by decide +kernel), List.mem_of_getElem? (i := 89) (by decide +kernel), by decide +kernel, by decide +kernel⟩
theorem iw_X10_plays : Cond.instanceMethod m_X10_plays.1 ∈ gl_tb := List.mem_of_getElem? (i := 502) (by decide +kernel)
theorem lw_X10_plays : Cond.selects m_X10_plays.1.cls m_X10_plays.1 m_X10_plays.1 ∈ gl_tb := List.mem_of_getElem? (i := 503) (by decide +kernel)
theorem mw_X10_cuts : gl_mw m_X10_cuts 0 := ⟨List.mem_of_getElem? (i := 518) (by decide +kernel), List.mem_of_getElem? (i := 89) (by decide +kernel), by decide +kernel, by decide +kernel⟩
theorem iw_X10_cuts : Cond.instanceMethod m_X10_cuts.1 ∈ gl_tb := List.mem_of_getElem? (i := 516) (by decide +kernel)
theorem lw_X10_cuts : Cond.selects m_X10_cuts.1.cls m_X10_cuts.1 m_X10_cuts.1 ∈ gl_tb := List.mem_of_getElem? (i := 517) (by decide +kernel)
theorem mw_X10_mends : gl_mw m_X10_mends 2 := ⟨List.mem_of_getElem? (i := 525) (by decide +kernel), List.mem_of_getElem? (i := 89) (by decide +kernel), by decide +kernel, by decide +kernel⟩
theorem iw_X10_mends : Cond.instanceMethod m_X10_mends.1 ∈ gl_tb := List.mem_of_getElem? (i := 523) (by decide +kernel)
theorem lw_X10_mends : Cond.selects m_X10_mends.1.cls m_X10_mends.1 m_X10_mends.1 ∈ gl_tb := List.mem_of_getElem? (i := 524) (by decide +kernel)
theorem mw_X10_moves : gl_mw m_X10_moves 1 := ⟨List.mem_of_getElem? (i := 535) (by decide +kernel), List.mem_of_getElem? (i := 89) (by decide +kernel), by decide +kernel, by decide +kernel⟩
theorem iw_X10_moves : Cond.instanceMethod m_X10_moves.1 ∈ gl_tb := List.mem_of_getElem? (i := 533) (by decide +kernel)
theorem lw_X10_moves : Cond.selects m_X10_moves.1.cls m_X10_moves.1 m_X10_moves.1 ∈ gl_tb := List.mem_of_getElem? (i := 534) (by decide +kernel)
theorem mw_X10_undo : gl_mw m_X10_undo 0 := ⟨List.mem_of_getElem? (i := 546) (by decide +kernel), List.mem_of_getElem? (i := 89) (by decide +kernel), by decide +kernel, by decide +kernel⟩
theorem iw_X10_undo : Cond.instanceMethod m_X10_undo.1 ∈ gl_tb := List.mem_of_getElem? (i := 544) (by decide +kernel)
theorem lw_X10_undo : Cond.selects m_X10_undo.1.cls m_X10_undo.1 m_X10_undo.1 ∈ gl_tb := List.mem_of_getElem? (i := 545) (by decide +kernel)
theorem mw_X10_note : gl_mw m_X10_note 1 := ⟨List.mem_of_getElem? (i := 556) (by decide +kernel), List.mem_of_getElem? (i := 89) (by decide +kernel), by decide +kernel, by decide +kernel⟩
theorem iw_X10_note : Cond.instanceMethod m_X10_note.1 ∈ gl_tb := List.mem_of_getElem? (i := 554) (by decide +kernel)
theorem lw_X10_note : Cond.selects m_X10_note.1.cls m_X10_note.1 m_X10_note.1 ∈ gl_tb := List.mem_of_getElem? (i := 555) (by decide +kernel)
theorem mw_X10_has : gl_mw m_X10_has 2 := ⟨List.mem_of_getElem? (i := 560) (by decide +kernel), List.mem_of_getElem? (i := 89) (by decide +kernel), by decide +kernel, by decide +kernel⟩
theorem iw_X10_has : Cond.instanceMethod m_X10_has.1 ∈ gl_tb := List.mem_of_getElem? (i := 558) (by decide +kernel)
theorem lw_X10_has : Cond.selects m_X10_has.1.cls m_X10_has.1 m_X10_has.1 ∈ gl_tb := List.mem_of_getElem? (i := 559) (by decide +kernel)
theorem mw_X10_shares : gl_mw m_X10_shares 3 := ⟨List.mem_of_getElem? (i := 573) (by decide +kernel), List.mem_of_getElem? (i := 89) (by decide +kernel), by decide +kernel, by decide +kernel⟩
theorem iw_X10_shares : Cond.instanceMethod m_X10_shares.1 ∈ gl_tb := List.mem_of_getElem? (i := 571) (by decide +kernel)
theorem lw_X10_shares : Cond.selects m_X10_shares.1.cls m_X10_shares.1 m_X10_shares.1 ∈ gl_tb := List.mem_of_getElem? (i := 572) (by decide +kernel)
theorem mw_X10_way : gl_mw m_X10_way 3 := ⟨List.mem_of_getElem? (i := 583) (by decide +kernel), List.mem_of_getElem? (i := 89) (by decide +kernel), by decide +kernel, by decide +kernel⟩
theorem iw_X10_way : Cond.instanceMethod m_X10_way.1 ∈ gl_tb := List.mem_of_getElem? (i := 581) (by decide +kernel)
theorem lw_X10_way : Cond.selects m_X10_way.1.cls m_X10_way.1 m_X10_way.1 ∈ gl_tb := List.mem_of_getElem? (i := 582) (by decide +kernel)
theorem mw_X10_farthest : gl_mw m_X10_farthest 2 := ⟨List.mem_of_getElem? (i := 612) (by decide +kernel), List.mem_of_getElem? (i := 89) (by decide +kernel), by decide +kernel, by decide +kernel⟩
theorem iw_X10_farthest : Cond.instanceMethod m_X10_farthest.1 ∈ gl_tb := List.mem_of_getElem? (i := 610) (by decide +kernel)
theorem lw_X10_farthest : Cond.selects m_X10_farthest.1.cls m_X10_farthest.1 m_X10_farthest.1 ∈ gl_tb := List.mem_of_getElem? (i := 611) (by decide +kernel)
theorem mw_X10_parse : gl_mw m_X10_parse 1 := ⟨List.mem_of_getElem? (i := 619) (by decide +kernel), List.mem_of_getElem? (i := 89) (by decide +kernel), by decide +kernel, by decide +kernel⟩
theorem iw_X10_parse : Cond.instanceMethod m_X10_parse.1 ∈ gl_tb := List.mem_of_getElem? (i := 617) (by decide +kernel)
theorem lw_X10_parse : Cond.selects m_X10_parse.1.cls m_X10_parse.1 m_X10_parse.1 ∈ gl_tb := List.mem_of_getElem? (i := 618) (by decide +kernel)
theorem mw_X10_parsed : gl_mw m_X10_parsed 2 := ⟨List.mem_of_getElem? (i := 684) (by decide +kernel), List.mem_of_getElem? (i := 89) (by decide +kernel), by decide +kernel, by decide +kernel⟩
theorem iw_X10_parsed : Cond.instanceMethod m_X10_parsed.1 ∈ gl_tb := List.mem_of_getElem? (i := 682) (by decide +kernel)
theorem lw_X10_parsed : Cond.selects m_X10_parsed.1.cls m_X10_parsed.1 m_X10_parsed.1 ∈ gl_tb := List.mem_of_getElem? (i := 683) (by decide +kernel)
theorem mw_X10_reach : gl_mw m_X10_reach 0 := ⟨List.mem_of_getElem? (i := 690) (by decide +kernel), List.mem_of_getElem? (i := 89) (by decide +kernel), by decide +kernel, by decide +kernel⟩
theorem iw_X10_reach : Cond.instanceMethod m_X10_reach.1 ∈ gl_tb := List.mem_of_getElem? (i := 688) (by decide +kernel)
theorem lw_X10_reach : Cond.selects m_X10_reach.1.cls m_X10_reach.1 m_X10_reach.1 ∈ gl_tb := List.mem_of_getElem? (i := 689) (by decide +kernel)
theorem mw_X10_fit : gl_mw m_X10_fit 1 := ⟨List.mem_of_getElem? (i := 694) (by decide +kernel), List.mem_of_getElem? (i := 89) (by decide +kernel), by decide +kernel, by decide +kernel⟩
theorem iw_X10_fit : Cond.instanceMethod m_X10_fit.1 ∈ gl_tb := List.mem_of_getElem? (i := 692) (by decide +kernel)
theorem lw_X10_fit : Cond.selects m_X10_fit.1.cls m_X10_fit.1 m_X10_fit.1 ∈ gl_tb := List.mem_of_getElem? (i := 693) (by decide +kernel)
theorem mw_X10_home : gl_mw m_X10_home 0 := ⟨List.mem_of_getElem? (i := 701) (by decide +kernel), List.mem_of_getElem? (i := 89) (by decide +kernel), by decide +kernel, by decide +kernel⟩
theorem iw_X10_home : Cond.instanceMethod m_X10_home.1 ∈ gl_tb := List.mem_of_getElem? (i := 699) (by decide +kernel)
theorem lw_X10_home : Cond.selects m_X10_home.1.cls m_X10_home.1 m_X10_home.1 ∈ gl_tb := List.mem_of_getElem? (i := 700) (by decide +kernel)
theorem mw_X10_sees : gl_mw m_X10_sees 2 := ⟨List.mem_of_getElem? (i := 706) (by decide +kernel), List.mem_of_getElem? (i := 89) (by decide +kernel), by decide +kernel, by decide +kernel⟩
theorem iw_X10_sees : Cond.instanceMethod m_X10_sees.1 ∈ gl_tb := List.mem_of_getElem? (i := 704) (by decide +kernel)
theorem lw_X10_sees : Cond.selects m_X10_sees.1.cls m_X10_sees.1 m_X10_sees.1 ∈ gl_tb := List.mem_of_getElem? (i := 705) (by decide +kernel)
theorem mw_X10_forget : gl_mw m_X10_forget 0 := ⟨List.mem_of_getElem? (i := 713) (by decide +kernel), List.mem_of_getElem? (i := 89) (by decide +kernel), by decide +kernel, by decide +kernel⟩
theorem iw_X10_forget : Cond.instanceMethod m_X10_forget.1 ∈ gl_tb := List.mem_of_getElem? (i := 711) (by decide +kernel)
theorem lw_X10_forget : Cond.selects m_X10_forget.1.cls m_X10_forget.1 m_X10_forget.1 ∈ gl_tb := List.mem_of_getElem? (i := 712) (by decide +kernel)
theorem mw_X10_unseen : gl_mw m_X10_unseen 0 := ⟨List.mem_of_getElem? (i := 717) (by decide +kernel), List.mem_of_getElem? (i := 89) (by decide +kernel), by decide +kernel, by decide +kernel⟩
theorem iw_X10_unseen : Cond.instanceMethod m_X10_unseen.1 ∈ gl_tb := List.mem_of_getElem? (i := 715) (by decide +kernel)
theorem lw_X10_unseen : Cond.selects m_X10_unseen.1.cls m_X10_unseen.1 m_X10_unseen.1 ∈ gl_tb := List.mem_of_getElem? (i := 716) (by decide +kernel)
theorem mw_X10_keep : gl_mw m_X10_keep 1 := ⟨List.mem_of_getElem? (i := 725) (by decide +kernel), List.mem_of_getElem? (i := 89) (by decide +kernel), by decide +kernel, by decide +kernel⟩
theorem iw_X10_keep : Cond.instanceMethod m_X10_keep.1 ∈ gl_tb := List.mem_of_getElem? (i := 723) (by decide +kernel)
theorem lw_X10_keep : Cond.selects m_X10_keep.1.cls m_X10_keep.1 m_X10_keep.1 ∈ gl_tb := List.mem_of_getElem? (i := 724) (by decide +kernel)
theorem mw_X10_back : gl_mw m_X10_back 1 := ⟨List.mem_of_getElem? (i := 730) (by decide +kernel), List.mem_of_getElem? (i := 89) (by decide +kernel), by decide +kernel, by decide +kernel⟩
theorem iw_X10_back : Cond.instanceMethod m_X10_back.1 ∈ gl_tb := List.mem_of_getElem? (i := 728) (by decide +kernel)
theorem lw_X10_back : Cond.selects m_X10_back.1.cls m_X10_back.1 m_X10_back.1 ∈ gl_tb := List.mem_of_getElem? (i := 729) (by decide +kernel)
theorem mw_X10_count : gl_mw m_X10_count 1 := ⟨List.mem_of_getElem? (i := 738) (by decide +kernel), List.mem_of_getElem? (i := 89) (by decide +kernel), by decide +kernel, by decide +kernel⟩
theorem iw_X10_count : Cond.instanceMethod m_X10_count.1 ∈ gl_tb := List.mem_of_getElem? (i := 736) (by decide +kernel)
theorem lw_X10_count : Cond.selects m_X10_count.1.cls m_X10_count.1 m_X10_count.1 ∈ gl_tb := List.mem_of_getElem? (i := 737) (by decide +kernel)
theorem mw_X10_fitOf : gl_mw m_X10_fitOf 1 := ⟨List.mem_of_getElem? (i := 697) (by decide +kernel), List.mem_of_getElem? (i := 89) (by decide +kernel), by decide +kernel, by decide +kernel⟩
theorem iw_X10_fitOf : Cond.instanceMethod m_X10_fitOf.1 ∈ gl_tb := List.mem_of_getElem? (i := 696) (by decide +kernel)
theorem lw_X10_fitOf : Cond.selects m_X10_fitOf.1.cls m_X10_fitOf.1 m_X10_fitOf.1 ∈ gl_tb := List.mem_of_getElem? (i := 60) (by decide +kernel)
theorem mw_X10_within : gl_mw m_X10_within 3 := ⟨List.mem_of_getElem? (i := 393) (by decide +kernel), List.mem_of_getElem? (i := 89) (by decide +kernel), by decide +kernel, by decide +kernel⟩
theorem sw_X10_within : Cond.static m_X10_within.1 ∈ gl_tb := List.mem_of_getElem? (i := 392) (by decide +kernel)
theorem mw_X10_spotOf : gl_mw m_X10_spotOf 2 := ⟨List.mem_of_getElem? (i := 633) (by decide +kernel), List.mem_of_getElem? (i := 89) (by decide +kernel), by decide +kernel, by decide +kernel⟩
theorem sw_X10_spotOf : Cond.static m_X10_spotOf.1 ∈ gl_tb := List.mem_of_getElem? (i := 632) (by decide +kernel)
theorem mw_X10_scaleOfSpot : gl_mw m_X10_scaleOfSpot 1 := ⟨List.mem_of_getElem? (i := 659) (by decide +kernel), List.mem_of_getElem? (i := 89) (by decide +kernel), by decide +kernel, by decide +kernel⟩
theorem sw_X10_scaleOfSpot : Cond.static m_X10_scaleOfSpot.1 ∈ gl_tb := List.mem_of_getElem? (i := 658) (by decide +kernel)
theorem mw_X10_partOfSpot : gl_mw m_X10_partOfSpot 1 := ⟨List.mem_of_getElem? (i := 662) (by decide +kernel), List.mem_of_getElem? (i := 89) (by decide +kernel), by decide +kernel, by decide +kernel⟩
theorem sw_X10_partOfSpot : Cond.static m_X10_partOfSpot.1 ∈ gl_tb := List.mem_of_getElem? (i := 661) (by decide +kernel)
theorem mw_X11_init : gl_mw m_X11_init 0 := ⟨List.mem_of_getElem? (i := 743) (by decide +kernel), List.mem_of_getElem? (i := 101) (by decide +kernel), by decide +kernel, by decide +kernel⟩
theorem iw_X11_init : Cond.instanceMethod m_X11_init.1 ∈ gl_tb := List.mem_of_getElem? (i := 742) (by decide +kernel)
theorem mw_X11_in : gl_mw m_X11_in 3 := ⟨List.mem_of_getElem? (i := 839) (by decide +kernel), List.mem_of_getElem? (i := 101) (by decide +kernel), by decide +kernel, by decide +kernel⟩
theorem sw_X11_in : Cond.static m_X11_in.1 ∈ gl_tb := List.mem_of_getElem? (i := 838) (by decide +kernel)
theorem mw_X11_isScale : gl_mw m_X11_isScale 1 := ⟨List.mem_of_getElem? (i := 879) (by decide +kernel), List.mem_of_getElem? (i := 101) (by decide +kernel), by decide +kernel, by decide +kernel⟩
theorem iw_X11_isScale : Cond.instanceMethod m_X11_isScale.1 ∈ gl_tb := List.mem_of_getElem? (i := 878) (by decide +kernel)
theorem lw_X11_isScale : Cond.selects m_X11_isScale.1.cls m_X11_isScale.1 m_X11_isScale.1 ∈ gl_tb := List.mem_of_getElem? (i := 71) (by decide +kernel)
theorem mw_X11_isNote : gl_mw m_X11_isNote 1 := ⟨List.mem_of_getElem? (i := 949) (by decide +kernel), List.mem_of_getElem? (i := 101) (by decide +kernel), by decide +kernel, by decide +kernel⟩
theorem iw_X11_isNote : Cond.instanceMethod m_X11_isNote.1 ∈ gl_tb := List.mem_of_getElem? (i := 948) (by decide +kernel)
theorem lw_X11_isNote : Cond.selects m_X11_isNote.1.cls m_X11_isNote.1 m_X11_isNote.1 ∈ gl_tb := List.mem_of_getElem? (i := 85) (by decide +kernel)
theorem mw_X11_type : gl_mw m_X11_type 1 := ⟨List.mem_of_getElem? (i := 836) (by decide +kernel), List.mem_of_getElem? (i := 101) (by decide +kernel), by decide +kernel, by decide +kernel⟩
theorem iw_X11_type : Cond.instanceMethod m_X11_type.1 ∈ gl_tb := List.mem_of_getElem? (i := 834) (by decide +kernel)
theorem lw_X11_type : Cond.selects m_X11_type.1.cls m_X11_type.1 m_X11_type.1 ∈ gl_tb := List.mem_of_getElem? (i := 835) (by decide +kernel)
theorem mw_X11_clear : gl_mw m_X11_clear 0 := ⟨List.mem_of_getElem? (i := 843) (by decide +kernel), List.mem_of_getElem? (i := 101) (by decide +kernel), by decide +kernel, by decide +kernel⟩
theorem iw_X11_clear : Cond.instanceMethod m_X11_clear.1 ∈ gl_tb := List.mem_of_getElem? (i := 841) (by decide +kernel)
theorem lw_X11_clear : Cond.selects m_X11_clear.1.cls m_X11_clear.1 m_X11_clear.1 ∈ gl_tb := List.mem_of_getElem? (i := 842) (by decide +kernel)
theorem mw_X11_isFigure : gl_mw m_X11_isFigure 1 := ⟨List.mem_of_getElem? (i := 853) (by decide +kernel), List.mem_of_getElem? (i := 101) (by decide +kernel), by decide +kernel, by decide +kernel⟩
theorem iw_X11_isFigure : Cond.instanceMethod m_X11_isFigure.1 ∈ gl_tb := List.mem_of_getElem? (i := 852) (by decide +kernel)
theorem lw_X11_isFigure : Cond.selects m_X11_isFigure.1.cls m_X11_isFigure.1 m_X11_isFigure.1 ∈ gl_tb := List.mem_of_getElem? (i := 65) (by decide +kernel)
theorem mw_X11_takes : gl_mw m_X11_takes 0 := ⟨List.mem_of_getElem? (i := 850) (by decide +kernel), List.mem_of_getElem? (i := 101) (by decide +kernel), by decide +kernel, by decide +kernel⟩
theorem iw_X11_takes : Cond.instanceMethod m_X11_takes.1 ∈ gl_tb := List.mem_of_getElem? (i := 849) (by decide +kernel)
theorem lw_X11_takes : Cond.selects m_X11_takes.1.cls m_X11_takes.1 m_X11_takes.1 ∈ gl_tb := List.mem_of_getElem? (i := 64) (by decide +kernel)
theorem mw_X11_isNumber : gl_mw m_X11_isNumber 2 := ⟨List.mem_of_getElem? (i := 859) (by decide +kernel), List.mem_of_getElem? (i := 101) (by decide +kernel), by decide +kernel, by decide +kernel⟩
theorem iw_X11_isNumber : Cond.instanceMethod m_X11_isNumber.1 ∈ gl_tb := List.mem_of_getElem? (i := 858) (by decide +kernel)
theorem lw_X11_isNumber : Cond.selects m_X11_isNumber.1.cls m_X11_isNumber.1 m_X11_isNumber.1 ∈ gl_tb := List.mem_of_getElem? (i := 67) (by decide +kernel)
theorem mw_X11_readsCell : gl_mw m_X11_readsCell 0 := ⟨List.mem_of_getElem? (i := 856) (by decide +kernel), List.mem_of_getElem? (i := 101) (by decide +kernel), by decide +kernel, by decide +kernel⟩
theorem iw_X11_readsCell : Cond.instanceMethod m_X11_readsCell.1 ∈ gl_tb := List.mem_of_getElem? (i := 855) (by decide +kernel)
theorem lw_X11_readsCell : Cond.selects m_X11_readsCell.1.cls m_X11_readsCell.1 m_X11_readsCell.1 ∈ gl_tb := List.mem_of_getElem? (i := 66) (by decide +kernel)
theorem mw_X11_readsMode : gl_mw m_X11_readsMode 0 := ⟨List.mem_of_getElem? (i := 862) (by decide +kernel), List.mem_of_getElem? (i := 101) (by decide +kernel), by decide +kernel, by decide +kernel⟩
theorem iw_X11_readsMode : Cond.instanceMethod m_X11_readsMode.1 ∈ gl_tb := List.mem_of_getElem? (i := 861) (by decide +kernel)
theorem lw_X11_readsMode : Cond.selects m_X11_readsMode.1.cls m_X11_readsMode.1 m_X11_readsMode.1 ∈ gl_tb := List.mem_of_getElem? (i := 68) (by decide +kernel)
theorem mw_X11_becomes : gl_mw m_X11_becomes 0 := ⟨List.mem_of_getElem? (i := 865) (by decide +kernel), List.mem_of_getElem? (i := 101) (by decide +kernel), by decide +kernel, by decide +kernel⟩
theorem iw_X11_becomes : Cond.instanceMethod m_X11_becomes.1 ∈ gl_tb := List.mem_of_getElem? (i := 864) (by decide +kernel)
theorem lw_X11_becomes : Cond.selects m_X11_becomes.1.cls m_X11_becomes.1 m_X11_becomes.1 ∈ gl_tb := List.mem_of_getElem? (i := 69) (by decide +kernel)
theorem mw_X11_modes : gl_mw m_X11_modes 0 := ⟨List.mem_of_getElem? (i := 847) (by decide +kernel), List.mem_of_getElem? (i := 101) (by decide +kernel), by decide +kernel, by decide +kernel⟩
theorem iw_X11_modes : Cond.instanceMethod m_X11_modes.1 ∈ gl_tb := List.mem_of_getElem? (i := 845) (by decide +kernel)
theorem lw_X11_modes : Cond.selects m_X11_modes.1.cls m_X11_modes.1 m_X11_modes.1 ∈ gl_tb := List.mem_of_getElem? (i := 846) (by decide +kernel)
theorem mw_X11_span : gl_mw m_X11_span 1 := ⟨List.mem_of_getElem? (i := 868) (by decide +kernel), List.mem_of_getElem? (i := 101) (by decide +kernel), by decide +kernel, by decide +kernel⟩
theorem iw_X11_span : Cond.instanceMethod m_X11_span.1 ∈ gl_tb := List.mem_of_getElem? (i := 867) (by decide +kernel)
theorem lw_X11_span : Cond.selects m_X11_span.1.cls m_X11_span.1 m_X11_span.1 ∈ gl_tb := List.mem_of_getElem? (i := 70) (by decide +kernel)
theorem mw_X11_isIn : gl_mw m_X11_isIn 3 := ⟨List.mem_of_getElem? (i := 901) (by decide +kernel), List.mem_of_getElem? (i := 101) (by decide +kernel), by decide +kernel, by decide +kernel⟩
theorem iw_X11_isIn : Cond.instanceMethod m_X11_isIn.1 ∈ gl_tb := List.mem_of_getElem? (i := 900) (by decide +kernel)
theorem lw_X11_isIn : Cond.selects m_X11_isIn.1.cls m_X11_isIn.1 m_X11_isIn.1 ∈ gl_tb := List.mem_of_getElem? (i := 77) (by decide +kernel)
theorem mw_X11_parts : gl_mw m_X11_parts 1 := ⟨List.mem_of_getElem? (i := 882) (by decide +kernel), List.mem_of_getElem? (i := 101) (by decide +kernel), by decide +kernel, by decide +kernel⟩
theorem iw_X11_parts : Cond.instanceMethod m_X11_parts.1 ∈ gl_tb := List.mem_of_getElem? (i := 881) (by decide +kernel)
theorem lw_X11_parts : Cond.selects m_X11_parts.1.cls m_X11_parts.1 m_X11_parts.1 ∈ gl_tb := List.mem_of_getElem? (i := 72) (by decide +kernel)
theorem mw_X11_cellOf : gl_mw m_X11_cellOf 2 := ⟨List.mem_of_getElem? (i := 885) (by decide +kernel), List.mem_of_getElem? (i := 101) (by decide +kernel), by decide +kernel, by decide +kernel⟩
theorem iw_X11_cellOf : Cond.instanceMethod m_X11_cellOf.1 ∈ gl_tb := List.mem_of_getElem? (i := 884) (by decide +kernel)
theorem lw_X11_cellOf : Cond.selects m_X11_cellOf.1.cls m_X11_cellOf.1 m_X11_cellOf.1 ∈ gl_tb := List.mem_of_getElem? (i := 73) (by decide +kernel)
theorem mw_X11_pitchOf : gl_mw m_X11_pitchOf 2 := ⟨List.mem_of_getElem? (i := 888) (by decide +kernel), List.mem_of_getElem? (i := 101) (by decide +kernel), by decide +kernel, by decide +kernel⟩
theorem iw_X11_pitchOf : Cond.instanceMethod m_X11_pitchOf.1 ∈ gl_tb := List.mem_of_getElem? (i := 887) (by decide +kernel)
theorem lw_X11_pitchOf : Cond.selects m_X11_pitchOf.1.cls m_X11_pitchOf.1 m_X11_pitchOf.1 ∈ gl_tb := List.mem_of_getElem? (i := 74) (by decide +kernel)
theorem mw_X11_isInPart : gl_mw m_X11_isInPart 3 := ⟨List.mem_of_getElem? (i := 898) (by decide +kernel), List.mem_of_getElem? (i := 101) (by decide +kernel), by decide +kernel, by decide +kernel⟩
theorem iw_X11_isInPart : Cond.instanceMethod m_X11_isInPart.1 ∈ gl_tb := List.mem_of_getElem? (i := 897) (by decide +kernel)
theorem lw_X11_isInPart : Cond.selects m_X11_isInPart.1.cls m_X11_isInPart.1 m_X11_isInPart.1 ∈ gl_tb := List.mem_of_getElem? (i := 76) (by decide +kernel)
theorem mw_X11_sameIn : gl_mw m_X11_sameIn 3 := ⟨List.mem_of_getElem? (i := 908) (by decide +kernel), List.mem_of_getElem? (i := 101) (by decide +kernel), by decide +kernel, by decide +kernel⟩
theorem iw_X11_sameIn : Cond.instanceMethod m_X11_sameIn.1 ∈ gl_tb := List.mem_of_getElem? (i := 907) (by decide +kernel)
theorem lw_X11_sameIn : Cond.selects m_X11_sameIn.1.cls m_X11_sameIn.1 m_X11_sameIn.1 ∈ gl_tb := List.mem_of_getElem? (i := 78) (by decide +kernel)
theorem mw_X11_share : gl_mw m_X11_share 2 := ⟨List.mem_of_getElem? (i := 918) (by decide +kernel), List.mem_of_getElem? (i := 101) (by decide +kernel), by decide +kernel, by decide +kernel⟩
theorem iw_X11_share : Cond.instanceMethod m_X11_share.1 ∈ gl_tb := List.mem_of_getElem? (i := 917) (by decide +kernel)
theorem lw_X11_share : Cond.selects m_X11_share.1.cls m_X11_share.1 m_X11_share.1 ∈ gl_tb := List.mem_of_getElem? (i := 80) (by decide +kernel)
theorem mw_X11_cell : gl_mw m_X11_cell 2 := ⟨List.mem_of_getElem? (i := 872) (by decide +kernel), List.mem_of_getElem? (i := 101) (by decide +kernel), by decide +kernel, by decide +kernel⟩
theorem iw_X11_cell : Cond.instanceMethod m_X11_cell.1 ∈ gl_tb := List.mem_of_getElem? (i := 870) (by decide +kernel)
theorem lw_X11_cell : Cond.selects m_X11_cell.1.cls m_X11_cell.1 m_X11_cell.1 ∈ gl_tb := List.mem_of_getElem? (i := 871) (by decide +kernel)
theorem mw_X11_part : gl_mw m_X11_part 3 := ⟨List.mem_of_getElem? (i := 876) (by decide +kernel), List.mem_of_getElem? (i := 101) (by decide +kernel), by decide +kernel, by decide +kernel⟩
theorem iw_X11_part : Cond.instanceMethod m_X11_part.1 ∈ gl_tb := List.mem_of_getElem? (i := 874) (by decide +kernel)
theorem lw_X11_part : Cond.selects m_X11_part.1.cls m_X11_part.1 m_X11_part.1 ∈ gl_tb := List.mem_of_getElem? (i := 875) (by decide +kernel)
theorem mw_X11_manyHave : gl_mw m_X11_manyHave 2 := ⟨List.mem_of_getElem? (i := 895) (by decide +kernel), List.mem_of_getElem? (i := 101) (by decide +kernel), by decide +kernel, by decide +kernel⟩
theorem iw_X11_manyHave : Cond.instanceMethod m_X11_manyHave.1 ∈ gl_tb := List.mem_of_getElem? (i := 894) (by decide +kernel)
theorem lw_X11_manyHave : Cond.selects m_X11_manyHave.1.cls m_X11_manyHave.1 m_X11_manyHave.1 ∈ gl_tb := List.mem_of_getElem? (i := 75) (by decide +kernel)
theorem mw_X11_has : gl_mw m_X11_has 2 := ⟨List.mem_of_getElem? (i := 892) (by decide +kernel), List.mem_of_getElem? (i := 101) (by decide +kernel), by decide +kernel, by decide +kernel⟩
theorem iw_X11_has : Cond.instanceMethod m_X11_has.1 ∈ gl_tb := List.mem_of_getElem? (i := 890) (by decide +kernel)
theorem lw_X11_has : Cond.selects m_X11_has.1.cls m_X11_has.1 m_X11_has.1 ∈ gl_tb := List.mem_of_getElem? (i := 891) (by decide +kernel)
theorem mw_X11_shares : gl_mw m_X11_shares 3 := ⟨List.mem_of_getElem? (i := 905) (by decide +kernel), List.mem_of_getElem? (i := 101) (by decide +kernel), by decide +kernel, by decide +kernel⟩
theorem iw_X11_shares : Cond.instanceMethod m_X11_shares.1 ∈ gl_tb := List.mem_of_getElem? (i := 903) (by decide +kernel)
theorem lw_X11_shares : Cond.selects m_X11_shares.1.cls m_X11_shares.1 m_X11_shares.1 ∈ gl_tb := List.mem_of_getElem? (i := 904) (by decide +kernel)
theorem mw_X11_laysFar : gl_mw m_X11_laysFar 1 := ⟨List.mem_of_getElem? (i := 915) (by decide +kernel), List.mem_of_getElem? (i := 101) (by decide +kernel), by decide +kernel, by decide +kernel⟩
theorem iw_X11_laysFar : Cond.instanceMethod m_X11_laysFar.1 ∈ gl_tb := List.mem_of_getElem? (i := 914) (by decide +kernel)
theorem lw_X11_laysFar : Cond.selects m_X11_laysFar.1.cls m_X11_laysFar.1 m_X11_laysFar.1 ∈ gl_tb := List.mem_of_getElem? (i := 79) (by decide +kernel)
theorem mw_X11_way : gl_mw m_X11_way 3 := ⟨List.mem_of_getElem? (i := 912) (by decide +kernel), List.mem_of_getElem? (i := 101) (by decide +kernel), by decide +kernel, by decide +kernel⟩
theorem iw_X11_way : Cond.instanceMethod m_X11_way.1 ∈ gl_tb := List.mem_of_getElem? (i := 910) (by decide +kernel)
theorem lw_X11_way : Cond.selects m_X11_way.1.cls m_X11_way.1 m_X11_way.1 ∈ gl_tb := List.mem_of_getElem? (i := 911) (by decide +kernel)
theorem mw_X11_farthest : gl_mw m_X11_farthest 2 := ⟨List.mem_of_getElem? (i := 922) (by decide +kernel), List.mem_of_getElem? (i := 101) (by decide +kernel), by decide +kernel, by decide +kernel⟩
theorem iw_X11_farthest : Cond.instanceMethod m_X11_farthest.1 ∈ gl_tb := List.mem_of_getElem? (i := 920) (by decide +kernel)
theorem lw_X11_farthest : Cond.selects m_X11_farthest.1.cls m_X11_farthest.1 m_X11_farthest.1 ∈ gl_tb := List.mem_of_getElem? (i := 921) (by decide +kernel)
theorem mw_X11_state : gl_mw m_X11_state 3 := ⟨List.mem_of_getElem? (i := 936) (by decide +kernel), List.mem_of_getElem? (i := 101) (by decide +kernel), by decide +kernel, by decide +kernel⟩
theorem sw_X11_state : Cond.static m_X11_state.1 ∈ gl_tb := List.mem_of_getElem? (i := 935) (by decide +kernel)
theorem mw_X11_step : gl_mw m_X11_step 4 := ⟨List.mem_of_getElem? (i := 942) (by decide +kernel), List.mem_of_getElem? (i := 101) (by decide +kernel), by decide +kernel, by decide +kernel⟩
theorem iw_X11_step : Cond.instanceMethod m_X11_step.1 ∈ gl_tb := List.mem_of_getElem? (i := 941) (by decide +kernel)
theorem lw_X11_step : Cond.selects m_X11_step.1.cls m_X11_step.1 m_X11_step.1 ∈ gl_tb := List.mem_of_getElem? (i := 84) (by decide +kernel)
theorem mw_X11_leastFrom : gl_mw m_X11_leastFrom 3 := ⟨List.mem_of_getElem? (i := 933) (by decide +kernel), List.mem_of_getElem? (i := 101) (by decide +kernel), by decide +kernel, by decide +kernel⟩
theorem iw_X11_leastFrom : Cond.instanceMethod m_X11_leastFrom.1 ∈ gl_tb := List.mem_of_getElem? (i := 932) (by decide +kernel)
theorem lw_X11_leastFrom : Cond.selects m_X11_leastFrom.1.cls m_X11_leastFrom.1 m_X11_leastFrom.1 ∈ gl_tb := List.mem_of_getElem? (i := 82) (by decide +kernel)
theorem mw_X11_laysCosts : gl_mw m_X11_laysCosts 0 := ⟨List.mem_of_getElem? (i := 929) (by decide +kernel), List.mem_of_getElem? (i := 101) (by decide +kernel), by decide +kernel, by decide +kernel⟩
theorem iw_X11_laysCosts : Cond.instanceMethod m_X11_laysCosts.1 ∈ gl_tb := List.mem_of_getElem? (i := 928) (by decide +kernel)
theorem lw_X11_laysCosts : Cond.selects m_X11_laysCosts.1.cls m_X11_laysCosts.1 m_X11_laysCosts.1 ∈ gl_tb := List.mem_of_getElem? (i := 81) (by decide +kernel)
theorem mw_X11_laysParse : gl_mw m_X11_laysParse 1 := ⟨List.mem_of_getElem? (i := 939) (by decide +kernel), List.mem_of_getElem? (i := 101) (by decide +kernel), by decide +kernel, by decide +kernel⟩
theorem iw_X11_laysParse : Cond.instanceMethod m_X11_laysParse.1 ∈ gl_tb := List.mem_of_getElem? (i := 938) (by decide +kernel)
theorem lw_X11_laysParse : Cond.selects m_X11_laysParse.1.cls m_X11_laysParse.1 m_X11_laysParse.1 ∈ gl_tb := List.mem_of_getElem? (i := 83) (by decide +kernel)
theorem mw_X11_parse : gl_mw m_X11_parse 1 := ⟨List.mem_of_getElem? (i := 926) (by decide +kernel), List.mem_of_getElem? (i := 101) (by decide +kernel), by decide +kernel, by decide +kernel⟩
theorem iw_X11_parse : Cond.instanceMethod m_X11_parse.1 ∈ gl_tb := List.mem_of_getElem? (i := 924) (by decide +kernel)
theorem lw_X11_parse : Cond.selects m_X11_parse.1.cls m_X11_parse.1 m_X11_parse.1 ∈ gl_tb := List.mem_of_getElem? (i := 925) (by decide +kernel)
theorem mw_X11_parsed : gl_mw m_X11_parsed 2 := ⟨List.mem_of_getElem? (i := 946) (by decide +kernel), List.mem_of_getElem? (i := 101) (by decide +kernel), by decide +kernel, by decide +kernel⟩
theorem iw_X11_parsed : Cond.instanceMethod m_X11_parsed.1 ∈ gl_tb := List.mem_of_getElem? (i := 944) (by decide +kernel)
theorem lw_X11_parsed : Cond.selects m_X11_parsed.1.cls m_X11_parsed.1 m_X11_parsed.1 ∈ gl_tb := List.mem_of_getElem? (i := 945) (by decide +kernel)
theorem mw_X11_reach : gl_mw m_X11_reach 0 := ⟨List.mem_of_getElem? (i := 953) (by decide +kernel), List.mem_of_getElem? (i := 101) (by decide +kernel), by decide +kernel, by decide +kernel⟩
theorem iw_X11_reach : Cond.instanceMethod m_X11_reach.1 ∈ gl_tb := List.mem_of_getElem? (i := 951) (by decide +kernel)
theorem lw_X11_reach : Cond.selects m_X11_reach.1.cls m_X11_reach.1 m_X11_reach.1 ∈ gl_tb := List.mem_of_getElem? (i := 952) (by decide +kernel)
theorem mw_X11_fitOf : gl_mw m_X11_fitOf 1 := ⟨List.mem_of_getElem? (i := 960) (by decide +kernel), List.mem_of_getElem? (i := 101) (by decide +kernel), by decide +kernel, by decide +kernel⟩
theorem iw_X11_fitOf : Cond.instanceMethod m_X11_fitOf.1 ∈ gl_tb := List.mem_of_getElem? (i := 959) (by decide +kernel)
theorem lw_X11_fitOf : Cond.selects m_X11_fitOf.1.cls m_X11_fitOf.1 m_X11_fitOf.1 ∈ gl_tb := List.mem_of_getElem? (i := 86) (by decide +kernel)
theorem mw_X11_fit : gl_mw m_X11_fit 1 := ⟨List.mem_of_getElem? (i := 957) (by decide +kernel), List.mem_of_getElem? (i := 101) (by decide +kernel), by decide +kernel, by decide +kernel⟩
theorem iw_X11_fit : Cond.instanceMethod m_X11_fit.1 ∈ gl_tb := List.mem_of_getElem? (i := 955) (by decide +kernel)
theorem lw_X11_fit : Cond.selects m_X11_fit.1.cls m_X11_fit.1 m_X11_fit.1 ∈ gl_tb := List.mem_of_getElem? (i := 956) (by decide +kernel)
theorem mw_X11_home : gl_mw m_X11_home 0 := ⟨List.mem_of_getElem? (i := 964) (by decide +kernel), List.mem_of_getElem? (i := 101) (by decide +kernel), by decide +kernel, by decide +kernel⟩
theorem iw_X11_home : Cond.instanceMethod m_X11_home.1 ∈ gl_tb := List.mem_of_getElem? (i := 962) (by decide +kernel)
theorem lw_X11_home : Cond.selects m_X11_home.1.cls m_X11_home.1 m_X11_home.1 ∈ gl_tb := List.mem_of_getElem? (i := 963) (by decide +kernel)
theorem mw_X11_remembers : gl_mw m_X11_remembers 0 := ⟨List.mem_of_getElem? (i := 971) (by decide +kernel), List.mem_of_getElem? (i := 101) (by decide +kernel), by decide +kernel, by decide +kernel⟩
theorem iw_X11_remembers : Cond.instanceMethod m_X11_remembers.1 ∈ gl_tb := List.mem_of_getElem? (i := 970) (by decide +kernel)
theorem lw_X11_remembers : Cond.selects m_X11_remembers.1.cls m_X11_remembers.1 m_X11_remembers.1 ∈ gl_tb := List.mem_of_getElem? (i := 87) (by decide +kernel)
theorem mw_X11_plays : gl_mw m_X11_plays 1 := ⟨List.mem_of_getElem? (i := 968) (by decide +kernel), List.mem_of_getElem? (i := 101) (by decide +kernel), by decide +kernel, by decide +kernel⟩
theorem iw_X11_plays : Cond.instanceMethod m_X11_plays.1 ∈ gl_tb := List.mem_of_getElem? (i := 966) (by decide +kernel)
theorem lw_X11_plays : Cond.selects m_X11_plays.1.cls m_X11_plays.1 m_X11_plays.1 ∈ gl_tb := List.mem_of_getElem? (i := 967) (by decide +kernel)
theorem mw_X11_cuts : gl_mw m_X11_cuts 0 := ⟨List.mem_of_getElem? (i := 975) (by decide +kernel), List.mem_of_getElem? (i := 101) (by decide +kernel), by decide +kernel, by decide +kernel⟩
theorem iw_X11_cuts : Cond.instanceMethod m_X11_cuts.1 ∈ gl_tb := List.mem_of_getElem? (i := 973) (by decide +kernel)
theorem lw_X11_cuts : Cond.selects m_X11_cuts.1.cls m_X11_cuts.1 m_X11_cuts.1 ∈ gl_tb := List.mem_of_getElem? (i := 974) (by decide +kernel)
theorem mw_X11_mends : gl_mw m_X11_mends 2 := ⟨List.mem_of_getElem? (i := 979) (by decide +kernel), List.mem_of_getElem? (i := 101) (by decide +kernel), by decide +kernel, by decide +kernel⟩
theorem iw_X11_mends : Cond.instanceMethod m_X11_mends.1 ∈ gl_tb := List.mem_of_getElem? (i := 977) (by decide +kernel)
theorem lw_X11_mends : Cond.selects m_X11_mends.1.cls m_X11_mends.1 m_X11_mends.1 ∈ gl_tb := List.mem_of_getElem? (i := 978) (by decide +kernel)
theorem mw_X11_moves : gl_mw m_X11_moves 1 := ⟨List.mem_of_getElem? (i := 983) (by decide +kernel), List.mem_of_getElem? (i := 101) (by decide +kernel), by decide +kernel, by decide +kernel⟩
theorem iw_X11_moves : Cond.instanceMethod m_X11_moves.1 ∈ gl_tb := List.mem_of_getElem? (i := 981) (by decide +kernel)
theorem lw_X11_moves : Cond.selects m_X11_moves.1.cls m_X11_moves.1 m_X11_moves.1 ∈ gl_tb := List.mem_of_getElem? (i := 982) (by decide +kernel)
theorem mw_X11_undo : gl_mw m_X11_undo 0 := ⟨List.mem_of_getElem? (i := 987) (by decide +kernel), List.mem_of_getElem? (i := 101) (by decide +kernel), by decide +kernel, by decide +kernel⟩
theorem iw_X11_undo : Cond.instanceMethod m_X11_undo.1 ∈ gl_tb := List.mem_of_getElem? (i := 985) (by decide +kernel)
theorem lw_X11_undo : Cond.selects m_X11_undo.1.cls m_X11_undo.1 m_X11_undo.1 ∈ gl_tb := List.mem_of_getElem? (i := 986) (by decide +kernel)
theorem mw_X11_note : gl_mw m_X11_note 1 := ⟨List.mem_of_getElem? (i := 991) (by decide +kernel), List.mem_of_getElem? (i := 101) (by decide +kernel), by decide +kernel, by decide +kernel⟩
theorem iw_X11_note : Cond.instanceMethod m_X11_note.1 ∈ gl_tb := List.mem_of_getElem? (i := 989) (by decide +kernel)
theorem lw_X11_note : Cond.selects m_X11_note.1.cls m_X11_note.1 m_X11_note.1 ∈ gl_tb := List.mem_of_getElem? (i := 990) (by decide +kernel)
theorem mw_X11_sees : gl_mw m_X11_sees 2 := ⟨List.mem_of_getElem? (i := 995) (by decide +kernel), List.mem_of_getElem? (i := 101) (by decide +kernel), by decide +kernel, by decide +kernel⟩
theorem iw_X11_sees : Cond.instanceMethod m_X11_sees.1 ∈ gl_tb := List.mem_of_getElem? (i := 993) (by decide +kernel)
theorem lw_X11_sees : Cond.selects m_X11_sees.1.cls m_X11_sees.1 m_X11_sees.1 ∈ gl_tb := List.mem_of_getElem? (i := 994) (by decide +kernel)
theorem mw_X11_forget : gl_mw m_X11_forget 0 := ⟨List.mem_of_getElem? (i := 999) (by decide +kernel), List.mem_of_getElem? (i := 101) (by decide +kernel), by decide +kernel, by decide +kernel⟩
theorem iw_X11_forget : Cond.instanceMethod m_X11_forget.1 ∈ gl_tb := List.mem_of_getElem? (i := 997) (by decide +kernel)
theorem lw_X11_forget : Cond.selects m_X11_forget.1.cls m_X11_forget.1 m_X11_forget.1 ∈ gl_tb := List.mem_of_getElem? (i := 998) (by decide +kernel)
theorem mw_X11_unseen : gl_mw m_X11_unseen 0 := ⟨List.mem_of_getElem? (i := 1003) (by decide +kernel), List.mem_of_getElem? (i := 101) (by decide +kernel), by decide +kernel, by decide +kernel⟩
theorem iw_X11_unseen : Cond.instanceMethod m_X11_unseen.1 ∈ gl_tb := List.mem_of_getElem? (i := 1001) (by decide +kernel)
theorem lw_X11_unseen : Cond.selects m_X11_unseen.1.cls m_X11_unseen.1 m_X11_unseen.1 ∈ gl_tb := List.mem_of_getElem? (i := 1002) (by decide +kernel)
theorem mw_X11_keep : gl_mw m_X11_keep 1 := ⟨List.mem_of_getElem? (i := 1007) (by decide +kernel), List.mem_of_getElem? (i := 101) (by decide +kernel), by decide +kernel, by decide +kernel⟩
theorem iw_X11_keep : Cond.instanceMethod m_X11_keep.1 ∈ gl_tb := List.mem_of_getElem? (i := 1005) (by decide +kernel)
theorem lw_X11_keep : Cond.selects m_X11_keep.1.cls m_X11_keep.1 m_X11_keep.1 ∈ gl_tb := List.mem_of_getElem? (i := 1006) (by decide +kernel)
theorem mw_X11_back : gl_mw m_X11_back 1 := ⟨List.mem_of_getElem? (i := 1011) (by decide +kernel), List.mem_of_getElem? (i := 101) (by decide +kernel), by decide +kernel, by decide +kernel⟩
theorem iw_X11_back : Cond.instanceMethod m_X11_back.1 ∈ gl_tb := List.mem_of_getElem? (i := 1009) (by decide +kernel)
theorem lw_X11_back : Cond.selects m_X11_back.1.cls m_X11_back.1 m_X11_back.1 ∈ gl_tb := List.mem_of_getElem? (i := 1010) (by decide +kernel)
theorem mw_X11_count : gl_mw m_X11_count 1 := ⟨List.mem_of_getElem? (i := 1015) (by decide +kernel), List.mem_of_getElem? (i := 101) (by decide +kernel), by decide +kernel, by decide +kernel⟩
theorem iw_X11_count : Cond.instanceMethod m_X11_count.1 ∈ gl_tb := List.mem_of_getElem? (i := 1013) (by decide +kernel)
theorem lw_X11_count : Cond.selects m_X11_count.1.cls m_X11_count.1 m_X11_count.1 ∈ gl_tb := List.mem_of_getElem? (i := 1014) (by decide +kernel)
theorem mw_X0_init : gl_mw m_X0_init 0 := ⟨List.mem_of_getElem? (i := 132) (by decide +kernel), List.mem_of_getElem? (i := 91) (by decide +kernel), by decide +kernel, by decide +kernel⟩
theorem iw_X0_init : Cond.instanceMethod m_X0_init.1 ∈ gl_tb := List.mem_of_getElem? (i := 131) (by decide +kernel)
theorem mw_X0_dropAll : gl_mw m_X0_dropAll 0 := ⟨List.mem_of_getElem? (i := 410) (by decide +kernel), List.mem_of_getElem? (i := 91) (by decide +kernel), by decide +kernel, by decide +kernel⟩
theorem iw_X0_dropAll : Cond.instanceMethod m_X0_dropAll.1 ∈ gl_tb := List.mem_of_getElem? (i := 409) (by decide +kernel)
theorem lw_X0_dropAll : Cond.selects m_X0_dropAll.1.cls m_X0_dropAll.1 m_X0_dropAll.1 ∈ gl_tb := List.mem_of_getElem? (i := 2) (by decide +kernel)
theorem mw_X0_copyFrom : gl_mw m_X0_copyFrom 1 := ⟨List.mem_of_getElem? (i := 453) (by decide +kernel), List.mem_of_getElem? (i := 91) (by decide +kernel), by decide +kernel, by decide +kernel⟩
theorem iw_X0_copyFrom : Cond.instanceMethod m_X0_copyFrom.1 ∈ gl_tb := List.mem_of_getElem? (i := 452) (by decide +kernel)
theorem lw_X0_copyFrom : Cond.selects m_X0_copyFrom.1.cls m_X0_copyFrom.1 m_X0_copyFrom.1 ∈ gl_tb := List.mem_of_getElem? (i := 15) (by decide +kernel)
theorem mw_X0_copyRow : gl_mw m_X0_copyRow 2 := ⟨List.mem_of_getElem? (i := 456) (by decide +kernel), List.mem_of_getElem? (i := 91) (by decide +kernel), by decide +kernel, by decide +kernel⟩
theorem sw_X0_copyRow : Cond.static m_X0_copyRow.1 ∈ gl_tb := List.mem_of_getElem? (i := 455) (by decide +kernel)
theorem mw_X0_openCell : gl_mw m_X0_openCell 0 := ⟨List.mem_of_getElem? (i := 425) (by decide +kernel), List.mem_of_getElem? (i := 91) (by decide +kernel), by decide +kernel, by decide +kernel⟩
theorem iw_X0_openCell : Cond.instanceMethod m_X0_openCell.1 ∈ gl_tb := List.mem_of_getElem? (i := 424) (by decide +kernel)
theorem lw_X0_openCell : Cond.selects m_X0_openCell.1.cls m_X0_openCell.1 m_X0_openCell.1 ∈ gl_tb := List.mem_of_getElem? (i := 7) (by decide +kernel)
theorem mw_X0_addStep : gl_mw m_X0_addStep 1 := ⟨List.mem_of_getElem? (i := 438) (by decide +kernel), List.mem_of_getElem? (i := 91) (by decide +kernel), by decide +kernel, by decide +kernel⟩
theorem iw_X0_addStep : Cond.instanceMethod m_X0_addStep.1 ∈ gl_tb := List.mem_of_getElem? (i := 437) (by decide +kernel)
theorem lw_X0_addStep : Cond.selects m_X0_addStep.1.cls m_X0_addStep.1 m_X0_addStep.1 ∈ gl_tb := List.mem_of_getElem? (i := 10) (by decide +kernel)
theorem mw_X0_openMode : gl_mw m_X0_openMode 1 := ⟨List.mem_of_getElem? (i := 447) (by decide +kernel), List.mem_of_getElem? (i := 91) (by decide +kernel), by decide +kernel, by decide +kernel⟩
theorem iw_X0_openMode : Cond.instanceMethod m_X0_openMode.1 ∈ gl_tb := List.mem_of_getElem? (i := 446) (by decide +kernel)
theorem lw_X0_openMode : Cond.selects m_X0_openMode.1.cls m_X0_openMode.1 m_X0_openMode.1 ∈ gl_tb := List.mem_of_getElem? (i := 13) (by decide +kernel)
theorem mw_X0_addPart : gl_mw m_X0_addPart 2 := ⟨List.mem_of_getElem? (i := 450) (by decide +kernel), List.mem_of_getElem? (i := 91) (by decide +kernel), by decide +kernel, by decide +kernel⟩
theorem iw_X0_addPart : Cond.instanceMethod m_X0_addPart.1 ∈ gl_tb := List.mem_of_getElem? (i := 449) (by decide +kernel)
theorem lw_X0_addPart : Cond.selects m_X0_addPart.1.cls m_X0_addPart.1 m_X0_addPart.1 ∈ gl_tb := List.mem_of_getElem? (i := 14) (by decide +kernel)
theorem mw_X0_stepAt : gl_mw m_X0_stepAt 2 := ⟨List.mem_of_getElem? (i := 481) (by decide +kernel), List.mem_of_getElem? (i := 91) (by decide +kernel), by decide +kernel, by decide +kernel⟩
theorem iw_X0_stepAt : Cond.instanceMethod m_X0_stepAt.1 ∈ gl_tb := List.mem_of_getElem? (i := 480) (by decide +kernel)
theorem lw_X0_stepAt : Cond.selects m_X0_stepAt.1.cls m_X0_stepAt.1 m_X0_stepAt.1 ∈ gl_tb := List.mem_of_getElem? (i := 20) (by decide +kernel)
theorem mw_X0_scaleCount : gl_mw m_X0_scaleCount 0 := ⟨List.mem_of_getElem? (i := 491) (by decide +kernel), List.mem_of_getElem? (i := 91) (by decide +kernel), by decide +kernel, by decide +kernel⟩
theorem iw_X0_scaleCount : Cond.instanceMethod m_X0_scaleCount.1 ∈ gl_tb := List.mem_of_getElem? (i := 490) (by decide +kernel)
theorem lw_X0_scaleCount : Cond.selects m_X0_scaleCount.1.cls m_X0_scaleCount.1 m_X0_scaleCount.1 ∈ gl_tb := List.mem_of_getElem? (i := 22) (by decide +kernel)
theorem mw_X0_isScale : gl_mw m_X0_isScale 1 := ⟨List.mem_of_getElem? (i := 488) (by decide +kernel), List.mem_of_getElem? (i := 91) (by decide +kernel), by decide +kernel, by decide +kernel⟩
theorem iw_X0_isScale : Cond.instanceMethod m_X0_isScale.1 ∈ gl_tb := List.mem_of_getElem? (i := 487) (by decide +kernel)
theorem lw_X0_isScale : Cond.selects m_X0_isScale.1.cls m_X0_isScale.1 m_X0_isScale.1 ∈ gl_tb := List.mem_of_getElem? (i := 21) (by decide +kernel)
theorem mw_X0_partsOf : gl_mw m_X0_partsOf 1 := ⟨List.mem_of_getElem? (i := 494) (by decide +kernel), List.mem_of_getElem? (i := 91) (by decide +kernel), by decide +kernel, by decide +kernel⟩
theorem iw_X0_partsOf : Cond.instanceMethod m_X0_partsOf.1 ∈ gl_tb := List.mem_of_getElem? (i := 493) (by decide +kernel)
theorem lw_X0_partsOf : Cond.selects m_X0_partsOf.1.cls m_X0_partsOf.1 m_X0_partsOf.1 ∈ gl_tb := List.mem_of_getElem? (i := 23) (by decide +kernel)
theorem mw_X0_cellAt : gl_mw m_X0_cellAt 2 := ⟨List.mem_of_getElem? (i := 497) (by decide +kernel), List.mem_of_getElem? (i := 91) (by decide +kernel), by decide +kernel, by decide +kernel⟩
theorem iw_X0_cellAt : Cond.instanceMethod m_X0_cellAt.1 ∈ gl_tb := List.mem_of_getElem? (i := 496) (by decide +kernel)
theorem lw_X0_cellAt : Cond.selects m_X0_cellAt.1.cls m_X0_cellAt.1 m_X0_cellAt.1 ∈ gl_tb := List.mem_of_getElem? (i := 24) (by decide +kernel)
theorem mw_X0_pitchAt : gl_mw m_X0_pitchAt 2 := ⟨List.mem_of_getElem? (i := 500) (by decide +kernel), List.mem_of_getElem? (i := 91) (by decide +kernel), by decide +kernel, by decide +kernel⟩
theorem iw_X0_pitchAt : Cond.instanceMethod m_X0_pitchAt.1 ∈ gl_tb := List.mem_of_getElem? (i := 499) (by decide +kernel)
theorem lw_X0_pitchAt : Cond.selects m_X0_pitchAt.1.cls m_X0_pitchAt.1 m_X0_pitchAt.1 ∈ gl_tb := List.mem_of_getElem? (i := 25) (by decide +kernel)
theorem mw_X0_placedCell : gl_mw m_X0_placedCell 2 := ⟨List.mem_of_getElem? (i := 579) (by decide +kernel), List.mem_of_getElem? (i := 91) (by decide +kernel), by decide +kernel, by decide +kernel⟩
theorem iw_X0_placedCell : Cond.instanceMethod m_X0_placedCell.1 ∈ gl_tb := List.mem_of_getElem? (i := 578) (by decide +kernel)
theorem lw_X0_placedCell : Cond.selects m_X0_placedCell.1.cls m_X0_placedCell.1 m_X0_placedCell.1 ∈ gl_tb := List.mem_of_getElem? (i := 39) (by decide +kernel)
theorem mw_X0_isIn : gl_mw m_X0_isIn 3 := ⟨List.mem_of_getElem? (i := 567) (by decide +kernel), List.mem_of_getElem? (i := 91) (by decide +kernel), by decide +kernel, by decide +kernel⟩
theorem iw_X0_isIn : Cond.instanceMethod m_X0_isIn.1 ∈ gl_tb := List.mem_of_getElem? (i := 566) (by decide +kernel)
theorem lw_X0_isIn : Cond.selects m_X0_isIn.1.cls m_X0_isIn.1 m_X0_isIn.1 ∈ gl_tb := List.mem_of_getElem? (i := 37) (by decide +kernel)
theorem mw_X0_partsWith : gl_mw m_X0_partsWith 2 := ⟨List.mem_of_getElem? (i := 563) (by decide +kernel), List.mem_of_getElem? (i := 91) (by decide +kernel), by decide +kernel, by decide +kernel⟩
theorem iw_X0_partsWith : Cond.instanceMethod m_X0_partsWith.1 ∈ gl_tb := List.mem_of_getElem? (i := 562) (by decide +kernel)
theorem lw_X0_partsWith : Cond.selects m_X0_partsWith.1.cls m_X0_partsWith.1 m_X0_partsWith.1 ∈ gl_tb := List.mem_of_getElem? (i := 36) (by decide +kernel)
theorem mw_X0_samePart : gl_mw m_X0_samePart 3 := ⟨List.mem_of_getElem? (i := 576) (by decide +kernel), List.mem_of_getElem? (i := 91) (by decide +kernel), by decide +kernel, by decide +kernel⟩
theorem iw_X0_samePart : Cond.instanceMethod m_X0_samePart.1 ∈ gl_tb := List.mem_of_getElem? (i := 575) (by decide +kernel)
theorem lw_X0_samePart : Cond.selects m_X0_samePart.1.cls m_X0_samePart.1 m_X0_samePart.1 ∈ gl_tb := List.mem_of_getElem? (i := 38) (by decide +kernel)
theorem mw_X1_init : gl_mw m_X1_init 2 := ⟨List.mem_of_getElem? (i := 295) (by decide +kernel), List.mem_of_getElem? (i := 99) (by decide +kernel), by decide +kernel, by decide +kernel⟩
theorem iw_X1_init : Cond.instanceMethod m_X1_init.1 ∈ gl_tb := List.mem_of_getElem? (i := 294) (by decide +kernel)
theorem mw_X1_refresh : gl_mw m_X1_refresh 0 := ⟨List.mem_of_getElem? (i := 622) (by decide +kernel), List.mem_of_getElem? (i := 99) (by decide +kernel), by decide +kernel, by decide +kernel⟩
theorem iw_X1_refresh : Cond.instanceMethod m_X1_refresh.1 ∈ gl_tb := List.mem_of_getElem? (i := 621) (by decide +kernel)
theorem lw_X1_refresh : Cond.selects m_X1_refresh.1.cls m_X1_refresh.1 m_X1_refresh.1 ∈ gl_tb := List.mem_of_getElem? (i := 47) (by decide +kernel)
theorem mw_X1_restAt : gl_mw m_X1_restAt 2 := ⟨List.mem_of_getElem? (i := 636) (by decide +kernel), List.mem_of_getElem? (i := 99) (by decide +kernel), by decide +kernel, by decide +kernel⟩
theorem iw_X1_restAt : Cond.instanceMethod m_X1_restAt.1 ∈ gl_tb := List.mem_of_getElem? (i := 635) (by decide +kernel)
theorem lw_X1_restAt : Cond.selects m_X1_restAt.1.cls m_X1_restAt.1 m_X1_restAt.1 ∈ gl_tb := List.mem_of_getElem? (i := 49) (by decide +kernel)
theorem mw_X1_measureEntries : gl_mw m_X1_measureEntries 1 := ⟨List.mem_of_getElem? (i := 625) (by decide +kernel), List.mem_of_getElem? (i := 99) (by decide +kernel), by decide +kernel, by decide +kernel⟩
theorem iw_X1_measureEntries : Cond.instanceMethod m_X1_measureEntries.1 ∈ gl_tb := List.mem_of_getElem? (i := 624) (by decide +kernel)
theorem lw_X1_measureEntries : Cond.selects m_X1_measureEntries.1.cls m_X1_measureEntries.1 m_X1_measureEntries.1 ∈ gl_tb := List.mem_of_getElem? (i := 48) (by decide +kernel)
theorem mw_X1_measureRests : gl_mw m_X1_measureRests 1 := ⟨List.mem_of_getElem? (i := 640) (by decide +kernel), List.mem_of_getElem? (i := 99) (by decide +kernel), by decide +kernel, by decide +kernel⟩
theorem iw_X1_measureRests : Cond.instanceMethod m_X1_measureRests.1 ∈ gl_tb := List.mem_of_getElem? (i := 639) (by decide +kernel)
theorem lw_X1_measureRests : Cond.selects m_X1_measureRests.1.cls m_X1_measureRests.1 m_X1_measureRests.1 ∈ gl_tb := List.mem_of_getElem? (i := 50) (by decide +kernel)
theorem mw_X1_leastRest : gl_mw m_X1_leastRest 3 := ⟨List.mem_of_getElem? (i := 644) (by decide +kernel), List.mem_of_getElem? (i := 99) (by decide +kernel), by decide +kernel, by decide +kernel⟩
theorem iw_X1_leastRest : Cond.instanceMethod m_X1_leastRest.1 ∈ gl_tb := List.mem_of_getElem? (i := 643) (by decide +kernel)
theorem lw_X1_leastRest : Cond.selects m_X1_leastRest.1.cls m_X1_leastRest.1 m_X1_leastRest.1 ∈ gl_tb := List.mem_of_getElem? (i := 51) (by decide +kernel)
theorem mw_X1_choose : gl_mw m_X1_choose 0 := ⟨List.mem_of_getElem? (i := 647) (by decide +kernel), List.mem_of_getElem? (i := 99) (by decide +kernel), by decide +kernel, by decide +kernel⟩
theorem iw_X1_choose : Cond.instanceMethod m_X1_choose.1 ∈ gl_tb := List.mem_of_getElem? (i := 646) (by decide +kernel)
theorem lw_X1_choose : Cond.selects m_X1_choose.1.cls m_X1_choose.1 m_X1_choose.1 ∈ gl_tb := List.mem_of_getElem? (i := 52) (by decide +kernel)
theorem mw_X1_firstSpot : gl_mw m_X1_firstSpot 0 := ⟨List.mem_of_getElem? (i := 650) (by decide +kernel), List.mem_of_getElem? (i := 99) (by decide +kernel), by decide +kernel, by decide +kernel⟩
theorem iw_X1_firstSpot : Cond.instanceMethod m_X1_firstSpot.1 ∈ gl_tb := List.mem_of_getElem? (i := 649) (by decide +kernel)
theorem lw_X1_firstSpot : Cond.selects m_X1_firstSpot.1.cls m_X1_firstSpot.1 m_X1_firstSpot.1 ∈ gl_tb := List.mem_of_getElem? (i := 53) (by decide +kernel)
theorem mw_X1_nextSpot : gl_mw m_X1_nextSpot 2 := ⟨List.mem_of_getElem? (i := 653) (by decide +kernel), List.mem_of_getElem? (i := 99) (by decide +kernel), by decide +kernel, by decide +kernel⟩
theorem iw_X1_nextSpot : Cond.instanceMethod m_X1_nextSpot.1 ∈ gl_tb := List.mem_of_getElem? (i := 652) (by decide +kernel)
theorem lw_X1_nextSpot : Cond.selects m_X1_nextSpot.1.cls m_X1_nextSpot.1 m_X1_nextSpot.1 ∈ gl_tb := List.mem_of_getElem? (i := 54) (by decide +kernel)
theorem mw_X1_changeCost : gl_mw m_X1_changeCost 2 := ⟨List.mem_of_getElem? (i := 656) (by decide +kernel), List.mem_of_getElem? (i := 99) (by decide +kernel), by decide +kernel, by decide +kernel⟩
theorem iw_X1_changeCost : Cond.instanceMethod m_X1_changeCost.1 ∈ gl_tb := List.mem_of_getElem? (i := 655) (by decide +kernel)
theorem lw_X1_changeCost : Cond.selects m_X1_changeCost.1.cls m_X1_changeCost.1 m_X1_changeCost.1 ∈ gl_tb := List.mem_of_getElem? (i := 55) (by decide +kernel)
theorem mw_X1_countChange : gl_mw m_X1_countChange 1 := ⟨List.mem_of_getElem? (i := 666) (by decide +kernel), List.mem_of_getElem? (i := 99) (by decide +kernel), by decide +kernel, by decide +kernel⟩
theorem iw_X1_countChange : Cond.instanceMethod m_X1_countChange.1 ∈ gl_tb := List.mem_of_getElem? (i := 665) (by decide +kernel)
theorem lw_X1_countChange : Cond.selects m_X1_countChange.1.cls m_X1_countChange.1 m_X1_countChange.1 ∈ gl_tb := List.mem_of_getElem? (i := 56) (by decide +kernel)
theorem mw_X2_init : gl_mw m_X2_init 0 := ⟨List.mem_of_getElem? (i := 220) (by decide +kernel), List.mem_of_getElem? (i := 94) (by decide +kernel), by decide +kernel, by decide +kernel⟩
theorem iw_X2_init : Cond.instanceMethod m_X2_init.1 ∈ gl_tb := List.mem_of_getElem? (i := 219) (by decide +kernel)
theorem mw_X2_dropAll : gl_mw m_X2_dropAll 0 := ⟨List.mem_of_getElem? (i := 471) (by decide +kernel), List.mem_of_getElem? (i := 94) (by decide +kernel), by decide +kernel, by decide +kernel⟩
theorem iw_X2_dropAll : Cond.instanceMethod m_X2_dropAll.1 ∈ gl_tb := List.mem_of_getElem? (i := 470) (by decide +kernel)
theorem lw_X2_dropAll : Cond.selects m_X2_dropAll.1.cls m_X2_dropAll.1 m_X2_dropAll.1 ∈ gl_tb := List.mem_of_getElem? (i := 18) (by decide +kernel)
theorem mw_X2_remember : gl_mw m_X2_remember 1 := ⟨List.mem_of_getElem? (i := 507) (by decide +kernel), List.mem_of_getElem? (i := 94) (by decide +kernel), by decide +kernel, by decide +kernel⟩
theorem iw_X2_remember : Cond.instanceMethod m_X2_remember.1 ∈ gl_tb := List.mem_of_getElem? (i := 506) (by decide +kernel)
theorem lw_X2_remember : Cond.selects m_X2_remember.1.cls m_X2_remember.1 m_X2_remember.1 ∈ gl_tb := List.mem_of_getElem? (i := 26) (by decide +kernel)
theorem mw_X2_restore : gl_mw m_X2_restore 1 := ⟨List.mem_of_getElem? (i := 549) (by decide +kernel), List.mem_of_getElem? (i := 94) (by decide +kernel), by decide +kernel, by decide +kernel⟩
theorem iw_X2_restore : Cond.instanceMethod m_X2_restore.1 ∈ gl_tb := List.mem_of_getElem? (i := 548) (by decide +kernel)
theorem lw_X2_restore : Cond.selects m_X2_restore.1.cls m_X2_restore.1 m_X2_restore.1 ∈ gl_tb := List.mem_of_getElem? (i := 34) (by decide +kernel)
theorem mw_X3_init : gl_mw m_X3_init 2 := ⟨List.mem_of_getElem? (i := 301) (by decide +kernel), List.mem_of_getElem? (i := 100) (by decide +kernel), by decide +kernel, by decide +kernel⟩
theorem iw_X3_init : Cond.instanceMethod m_X3_init.1 ∈ gl_tb := List.mem_of_getElem? (i := 300) (by decide +kernel)
theorem mw_X3_longest : gl_mw m_X3_longest 0 := ⟨List.mem_of_getElem? (i := 669) (by decide +kernel), List.mem_of_getElem? (i := 100) (by decide +kernel), by decide +kernel, by decide +kernel⟩
theorem iw_X3_longest : Cond.instanceMethod m_X3_longest.1 ∈ gl_tb := List.mem_of_getElem? (i := 668) (by decide +kernel)
theorem lw_X3_longest : Cond.selects m_X3_longest.1.cls m_X3_longest.1 m_X3_longest.1 ∈ gl_tb := List.mem_of_getElem? (i := 57) (by decide +kernel)
theorem mw_X3_findLive : gl_mw m_X3_findLive 1 := ⟨List.mem_of_getElem? (i := 673) (by decide +kernel), List.mem_of_getElem? (i := 100) (by decide +kernel), by decide +kernel, by decide +kernel⟩
theorem iw_X3_findLive : Cond.instanceMethod m_X3_findLive.1 ∈ gl_tb := List.mem_of_getElem? (i := 672) (by decide +kernel)
theorem lw_X3_findLive : Cond.selects m_X3_findLive.1.cls m_X3_findLive.1 m_X3_findLive.1 ∈ gl_tb := List.mem_of_getElem? (i := 58) (by decide +kernel)
theorem mw_X3_markFromLive : gl_mw m_X3_markFromLive 1 := ⟨List.mem_of_getElem? (i := 680) (by decide +kernel), List.mem_of_getElem? (i := 100) (by decide +kernel), by decide +kernel, by decide +kernel⟩
theorem iw_X3_markFromLive : Cond.instanceMethod m_X3_markFromLive.1 ∈ gl_tb := List.mem_of_getElem? (i := 679) (by decide +kernel)
theorem lw_X3_markFromLive : Cond.selects m_X3_markFromLive.1.cls m_X3_markFromLive.1 m_X3_markFromLive.1 ∈ gl_tb := List.mem_of_getElem? (i := 59) (by decide +kernel)
theorem mw_X4_init : gl_mw m_X4_init 2 := ⟨List.mem_of_getElem? (i := 175) (by decide +kernel), List.mem_of_getElem? (i := 92) (by decide +kernel), by decide +kernel, by decide +kernel⟩
theorem iw_X4_init : Cond.instanceMethod m_X4_init.1 ∈ gl_tb := List.mem_of_getElem? (i := 174) (by decide +kernel)
theorem mw_X4_read : gl_mw m_X4_read 0 := ⟨List.mem_of_getElem? (i := 407) (by decide +kernel), List.mem_of_getElem? (i := 92) (by decide +kernel), by decide +kernel, by decide +kernel⟩
theorem iw_X4_read : Cond.instanceMethod m_X4_read.1 ∈ gl_tb := List.mem_of_getElem? (i := 406) (by decide +kernel)
theorem lw_X4_read : Cond.selects m_X4_read.1.cls m_X4_read.1 m_X4_read.1 ∈ gl_tb := List.mem_of_getElem? (i := 1) (by decide +kernel)
theorem mw_X4_readItem : gl_mw m_X4_readItem 0 := ⟨List.mem_of_getElem? (i := 419) (by decide +kernel), List.mem_of_getElem? (i := 92) (by decide +kernel), by decide +kernel, by decide +kernel⟩
theorem iw_X4_readItem : Cond.instanceMethod m_X4_readItem.1 ∈ gl_tb := List.mem_of_getElem? (i := 418) (by decide +kernel)
theorem lw_X4_readItem : Cond.selects m_X4_readItem.1.cls m_X4_readItem.1 m_X4_readItem.1 ∈ gl_tb := List.mem_of_getElem? (i := 5) (by decide +kernel)
theorem mw_X4_readCell : gl_mw m_X4_readCell 0 := ⟨List.mem_of_getElem? (i := 422) (by decide +kernel), List.mem_of_getElem? (i := 92) (by decide +kernel), by decide +kernel, by decide +kernel⟩
theorem iw_X4_readCell : Cond.instanceMethod m_X4_readCell.1 ∈ gl_tb := List.mem_of_getElem? (i := 421) (by decide +kernel)
theorem lw_X4_readCell : Cond.selects m_X4_readCell.1.cls m_X4_readCell.1 m_X4_readCell.1 ∈ gl_tb := List.mem_of_getElem? (i := 6) (by decide +kernel)
theorem mw_X4_readMode : gl_mw m_X4_readMode 0 := ⟨List.mem_of_getElem? (i := 444) (by decide +kernel), List.mem_of_getElem? (i := 92) (by decide +kernel), by decide +kernel, by decide +kernel⟩
theorem iw_X4_readMode : Cond.instanceMethod m_X4_readMode.1 ∈ gl_tb := List.mem_of_getElem? (i := 443) (by decide +kernel)
theorem lw_X4_readMode : Cond.selects m_X4_readMode.1.cls m_X4_readMode.1 m_X4_readMode.1 ∈ gl_tb := List.mem_of_getElem? (i := 12) (by decide +kernel)
theorem mw_X4_readEnd : gl_mw m_X4_readEnd 0 := ⟨List.mem_of_getElem? (i := 441) (by decide +kernel), List.mem_of_getElem? (i := 92) (by decide +kernel), by decide +kernel, by decide +kernel⟩
theorem iw_X4_readEnd : Cond.instanceMethod m_X4_readEnd.1 ∈ gl_tb := List.mem_of_getElem? (i := 440) (by decide +kernel)
theorem lw_X4_readEnd : Cond.selects m_X4_readEnd.1.cls m_X4_readEnd.1 m_X4_readEnd.1 ∈ gl_tb := List.mem_of_getElem? (i := 11) (by decide +kernel)
theorem mw_X4_atEnd : gl_mw m_X4_atEnd 0 := ⟨List.mem_of_getElem? (i := 428) (by decide +kernel), List.mem_of_getElem? (i := 92) (by decide +kernel), by decide +kernel, by decide +kernel⟩
theorem iw_X4_atEnd : Cond.instanceMethod m_X4_atEnd.1 ∈ gl_tb := List.mem_of_getElem? (i := 427) (by decide +kernel)
theorem lw_X4_atEnd : Cond.selects m_X4_atEnd.1.cls m_X4_atEnd.1 m_X4_atEnd.1 ∈ gl_tb := List.mem_of_getElem? (i := 8) (by decide +kernel)
theorem mw_X4_readNumber : gl_mw m_X4_readNumber 2 := ⟨List.mem_of_getElem? (i := 431) (by decide +kernel), List.mem_of_getElem? (i := 92) (by decide +kernel), by decide +kernel, by decide +kernel⟩
theorem iw_X4_readNumber : Cond.instanceMethod m_X4_readNumber.1 ∈ gl_tb := List.mem_of_getElem? (i := 430) (by decide +kernel)
theorem lw_X4_readNumber : Cond.selects m_X4_readNumber.1.cls m_X4_readNumber.1 m_X4_readNumber.1 ∈ gl_tb := List.mem_of_getElem? (i := 9) (by decide +kernel)
theorem mw_X4_isFigure : gl_mw m_X4_isFigure 1 := ⟨List.mem_of_getElem? (i := 434) (by decide +kernel), List.mem_of_getElem? (i := 92) (by decide +kernel), by decide +kernel, by decide +kernel⟩
theorem sw_X4_isFigure : Cond.static m_X4_isFigure.1 ∈ gl_tb := List.mem_of_getElem? (i := 433) (by decide +kernel)
theorem mw_X4_skipBlanks : gl_mw m_X4_skipBlanks 0 := ⟨List.mem_of_getElem? (i := 413) (by decide +kernel), List.mem_of_getElem? (i := 92) (by decide +kernel), by decide +kernel, by decide +kernel⟩
theorem iw_X4_skipBlanks : Cond.instanceMethod m_X4_skipBlanks.1 ∈ gl_tb := List.mem_of_getElem? (i := 412) (by decide +kernel)
theorem lw_X4_skipBlanks : Cond.selects m_X4_skipBlanks.1.cls m_X4_skipBlanks.1 m_X4_skipBlanks.1 ∈ gl_tb := List.mem_of_getElem? (i := 3) (by decide +kernel)
theorem mw_X5_init : gl_mw m_X5_init 0 := ⟨List.mem_of_getElem? (i := 255) (by decide +kernel), List.mem_of_getElem? (i := 97) (by decide +kernel), by decide +kernel, by decide +kernel⟩
theorem iw_X5_init : Cond.instanceMethod m_X5_init.1 ∈ gl_tb := List.mem_of_getElem? (i := 254) (by decide +kernel)
theorem mw_X5_add : gl_mw m_X5_add 2 := ⟨List.mem_of_getElem? (i := 709) (by decide +kernel), List.mem_of_getElem? (i := 97) (by decide +kernel), by decide +kernel, by decide +kernel⟩
theorem iw_X5_add : Cond.instanceMethod m_X5_add.1 ∈ gl_tb := List.mem_of_getElem? (i := 708) (by decide +kernel)
theorem lw_X5_add : Cond.selects m_X5_add.1.cls m_X5_add.1 m_X5_add.1 ∈ gl_tb := List.mem_of_getElem? (i := 61) (by decide +kernel)
theorem mw_X5_agreesWith : gl_mw m_X5_agreesWith 2 := ⟨List.mem_of_getElem? (i := 720) (by decide +kernel), List.mem_of_getElem? (i := 97) (by decide +kernel), by decide +kernel, by decide +kernel⟩
theorem iw_X5_agreesWith : Cond.instanceMethod m_X5_agreesWith.1 ∈ gl_tb := List.mem_of_getElem? (i := 719) (by decide +kernel)
theorem lw_X5_agreesWith : Cond.selects m_X5_agreesWith.1.cls m_X5_agreesWith.1 m_X5_agreesWith.1 ∈ gl_tb := List.mem_of_getElem? (i := 62) (by decide +kernel)
theorem mw_X6_init : gl_mw m_X6_init 1 := ⟨List.mem_of_getElem? (i := 226) (by decide +kernel), List.mem_of_getElem? (i := 95) (by decide +kernel), by decide +kernel, by decide +kernel⟩
theorem iw_X6_init : Cond.instanceMethod m_X6_init.1 ∈ gl_tb := List.mem_of_getElem? (i := 225) (by decide +kernel)
theorem mw_X6_dropAll : gl_mw m_X6_dropAll 0 := ⟨List.mem_of_getElem? (i := 474) (by decide +kernel), List.mem_of_getElem? (i := 95) (by decide +kernel), by decide +kernel, by decide +kernel⟩
theorem iw_X6_dropAll : Cond.instanceMethod m_X6_dropAll.1 ∈ gl_tb := List.mem_of_getElem? (i := 473) (by decide +kernel)
theorem lw_X6_dropAll : Cond.selects m_X6_dropAll.1.cls m_X6_dropAll.1 m_X6_dropAll.1 ∈ gl_tb := List.mem_of_getElem? (i := 19) (by decide +kernel)
theorem mw_X6_isKept : gl_mw m_X6_isKept 1 := ⟨List.mem_of_getElem? (i := 733) (by decide +kernel), List.mem_of_getElem? (i := 95) (by decide +kernel), by decide +kernel, by decide +kernel⟩
theorem iw_X6_isKept : Cond.instanceMethod m_X6_isKept.1 ∈ gl_tb := List.mem_of_getElem? (i := 732) (by decide +kernel)
theorem lw_X6_isKept : Cond.selects m_X6_isKept.1.cls m_X6_isKept.1 m_X6_isKept.1 ∈ gl_tb := List.mem_of_getElem? (i := 63) (by decide +kernel)
theorem mw_X6_put : gl_mw m_X6_put 2 := ⟨List.mem_of_getElem? (i := 510) (by decide +kernel), List.mem_of_getElem? (i := 95) (by decide +kernel), by decide +kernel, by decide +kernel⟩
theorem iw_X6_put : Cond.instanceMethod m_X6_put.1 ∈ gl_tb := List.mem_of_getElem? (i := 509) (by decide +kernel)
theorem lw_X6_put : Cond.selects m_X6_put.1.cls m_X6_put.1 m_X6_put.1 ∈ gl_tb := List.mem_of_getElem? (i := 27) (by decide +kernel)
theorem mw_X6_giveTo : gl_mw m_X6_giveTo 2 := ⟨List.mem_of_getElem? (i := 552) (by decide +kernel), List.mem_of_getElem? (i := 95) (by decide +kernel), by decide +kernel, by decide +kernel⟩
theorem iw_X6_giveTo : Cond.instanceMethod m_X6_giveTo.1 ∈ gl_tb := List.mem_of_getElem? (i := 551) (by decide +kernel)
theorem lw_X6_giveTo : Cond.selects m_X6_giveTo.1.cls m_X6_giveTo.1 m_X6_giveTo.1 ∈ gl_tb := List.mem_of_getElem? (i := 35) (by decide +kernel)
theorem mw_X7_init : gl_mw m_X7_init 0 := ⟨List.mem_of_getElem? (i := 116) (by decide +kernel), List.mem_of_getElem? (i := 90) (by decide +kernel), by decide +kernel, by decide +kernel⟩
theorem iw_X7_init : Cond.instanceMethod m_X7_init.1 ∈ gl_tb := List.mem_of_getElem? (i := 115) (by decide +kernel)
theorem mw_X7_add : gl_mw m_X7_add 1 := ⟨List.mem_of_getElem? (i := 396) (by decide +kernel), List.mem_of_getElem? (i := 90) (by decide +kernel), by decide +kernel, by decide +kernel⟩
theorem iw_X7_add : Cond.instanceMethod m_X7_add.1 ∈ gl_tb := List.mem_of_getElem? (i := 395) (by decide +kernel)
theorem lw_X7_add : Cond.selects m_X7_add.1.cls m_X7_add.1 m_X7_add.1 ∈ gl_tb := List.mem_of_getElem? (i := 0) (by decide +kernel)
theorem mw_X7_letterAt : gl_mw m_X7_letterAt 1 := ⟨List.mem_of_getElem? (i := 416) (by decide +kernel), List.mem_of_getElem? (i := 90) (by decide +kernel), by decide +kernel, by decide +kernel⟩
theorem iw_X7_letterAt : Cond.instanceMethod m_X7_letterAt.1 ∈ gl_tb := List.mem_of_getElem? (i := 415) (by decide +kernel)
theorem lw_X7_letterAt : Cond.selects m_X7_letterAt.1.cls m_X7_letterAt.1 m_X7_letterAt.1 ∈ gl_tb := List.mem_of_getElem? (i := 4) (by decide +kernel)
theorem mw_X8_init : gl_mw m_X8_init 0 := ⟨List.mem_of_getElem? (i := 194) (by decide +kernel), List.mem_of_getElem? (i := 93) (by decide +kernel), by decide +kernel, by decide +kernel⟩
theorem iw_X8_init : Cond.instanceMethod m_X8_init.1 ∈ gl_tb := List.mem_of_getElem? (i := 193) (by decide +kernel)
theorem mw_X8_isPlace : gl_mw m_X8_isPlace 1 := ⟨List.mem_of_getElem? (i := 528) (by decide +kernel), List.mem_of_getElem? (i := 93) (by decide +kernel), by decide +kernel, by decide +kernel⟩
theorem iw_X8_isPlace : Cond.instanceMethod m_X8_isPlace.1 ∈ gl_tb := List.mem_of_getElem? (i := 527) (by decide +kernel)
theorem lw_X8_isPlace : Cond.selects m_X8_isPlace.1.cls m_X8_isPlace.1 m_X8_isPlace.1 ∈ gl_tb := List.mem_of_getElem? (i := 30) (by decide +kernel)
theorem mw_X8_dropNotes : gl_mw m_X8_dropNotes 0 := ⟨List.mem_of_getElem? (i := 468) (by decide +kernel), List.mem_of_getElem? (i := 93) (by decide +kernel), by decide +kernel, by decide +kernel⟩
theorem iw_X8_dropNotes : Cond.instanceMethod m_X8_dropNotes.1 ∈ gl_tb := List.mem_of_getElem? (i := 467) (by decide +kernel)
theorem lw_X8_dropNotes : Cond.selects m_X8_dropNotes.1.cls m_X8_dropNotes.1 m_X8_dropNotes.1 ∈ gl_tb := List.mem_of_getElem? (i := 17) (by decide +kernel)
theorem mw_X8_append : gl_mw m_X8_append 1 := ⟨List.mem_of_getElem? (i := 514) (by decide +kernel), List.mem_of_getElem? (i := 93) (by decide +kernel), by decide +kernel, by decide +kernel⟩
theorem iw_X8_append : Cond.instanceMethod m_X8_append.1 ∈ gl_tb := List.mem_of_getElem? (i := 513) (by decide +kernel)
theorem lw_X8_append : Cond.selects m_X8_append.1.cls m_X8_append.1 m_X8_append.1 ∈ gl_tb := List.mem_of_getElem? (i := 28) (by decide +kernel)
theorem mw_X8_removeLast : gl_mw m_X8_removeLast 0 := ⟨List.mem_of_getElem? (i := 521) (by decide +kernel), List.mem_of_getElem? (i := 93) (by decide +kernel), by decide +kernel, by decide +kernel⟩
theorem iw_X8_removeLast : Cond.instanceMethod m_X8_removeLast.1 ∈ gl_tb := List.mem_of_getElem? (i := 520) (by decide +kernel)
theorem lw_X8_removeLast : Cond.selects m_X8_removeLast.1.cls m_X8_removeLast.1 m_X8_removeLast.1 ∈ gl_tb := List.mem_of_getElem? (i := 29) (by decide +kernel)
theorem mw_X8_replace : gl_mw m_X8_replace 2 := ⟨List.mem_of_getElem? (i := 531) (by decide +kernel), List.mem_of_getElem? (i := 93) (by decide +kernel), by decide +kernel, by decide +kernel⟩
theorem iw_X8_replace : Cond.instanceMethod m_X8_replace.1 ∈ gl_tb := List.mem_of_getElem? (i := 530) (by decide +kernel)
theorem lw_X8_replace : Cond.selects m_X8_replace.1.cls m_X8_replace.1 m_X8_replace.1 ∈ gl_tb := List.mem_of_getElem? (i := 31) (by decide +kernel)
theorem mw_X8_canShift : gl_mw m_X8_canShift 1 := ⟨List.mem_of_getElem? (i := 538) (by decide +kernel), List.mem_of_getElem? (i := 93) (by decide +kernel), by decide +kernel, by decide +kernel⟩
theorem iw_X8_canShift : Cond.instanceMethod m_X8_canShift.1 ∈ gl_tb := List.mem_of_getElem? (i := 537) (by decide +kernel)
theorem lw_X8_canShift : Cond.selects m_X8_canShift.1.cls m_X8_canShift.1 m_X8_canShift.1 ∈ gl_tb := List.mem_of_getElem? (i := 32) (by decide +kernel)
theorem mw_X8_shift : gl_mw m_X8_shift 1 := ⟨List.mem_of_getElem? (i := 542) (by decide +kernel), List.mem_of_getElem? (i := 93) (by decide +kernel), by decide +kernel, by decide +kernel⟩
theorem iw_X8_shift : Cond.instanceMethod m_X8_shift.1 ∈ gl_tb := List.mem_of_getElem? (i := 541) (by decide +kernel)
theorem lw_X8_shift : Cond.selects m_X8_shift.1.cls m_X8_shift.1 m_X8_shift.1 ∈ gl_tb := List.mem_of_getElem? (i := 33) (by decide +kernel)
theorem mw_X9_init : gl_mw m_X9_init 1 := ⟨List.mem_of_getElem? (i := 272) (by decide +kernel), List.mem_of_getElem? (i := 98) (by decide +kernel), by decide +kernel, by decide +kernel⟩
theorem iw_X9_init : Cond.instanceMethod m_X9_init.1 ∈ gl_tb := List.mem_of_getElem? (i := 271) (by decide +kernel)
theorem mw_X9_dropMeasures : gl_mw m_X9_dropMeasures 0 := ⟨List.mem_of_getElem? (i := 465) (by decide +kernel), List.mem_of_getElem? (i := 98) (by decide +kernel), by decide +kernel, by decide +kernel⟩
theorem iw_X9_dropMeasures : Cond.instanceMethod m_X9_dropMeasures.1 ∈ gl_tb := List.mem_of_getElem? (i := 464) (by decide +kernel)
theorem lw_X9_dropMeasures : Cond.selects m_X9_dropMeasures.1.cls m_X9_dropMeasures.1 m_X9_dropMeasures.1 ∈ gl_tb := List.mem_of_getElem? (i := 16) (by decide +kernel)
theorem mw_X9_measureFrom : gl_mw m_X9_measureFrom 1 := ⟨List.mem_of_getElem? (i := 586) (by decide +kernel), List.mem_of_getElem? (i := 98) (by decide +kernel), by decide +kernel, by decide +kernel⟩
theorem iw_X9_measureFrom : Cond.instanceMethod m_X9_measureFrom.1 ∈ gl_tb := List.mem_of_getElem? (i := 585) (by decide +kernel)
theorem lw_X9_measureFrom : Cond.selects m_X9_measureFrom.1.cls m_X9_measureFrom.1 m_X9_measureFrom.1 ∈ gl_tb := List.mem_of_getElem? (i := 40) (by decide +kernel)
theorem mw_X9_enqueueSharers : gl_mw m_X9_enqueueSharers 2 := ⟨List.mem_of_getElem? (i := 594) (by decide +kernel), List.mem_of_getElem? (i := 98) (by decide +kernel), by decide +kernel, by decide +kernel⟩
theorem iw_X9_enqueueSharers : Cond.instanceMethod m_X9_enqueueSharers.1 ∈ gl_tb := List.mem_of_getElem? (i := 593) (by decide +kernel)
theorem lw_X9_enqueueSharers : Cond.selects m_X9_enqueueSharers.1.cls m_X9_enqueueSharers.1 m_X9_enqueueSharers.1 ∈ gl_tb := List.mem_of_getElem? (i := 42) (by decide +kernel)
theorem mw_X9_enqueue : gl_mw m_X9_enqueue 2 := ⟨List.mem_of_getElem? (i := 590) (by decide +kernel), List.mem_of_getElem? (i := 98) (by decide +kernel), by decide +kernel, by decide +kernel⟩
theorem iw_X9_enqueue : Cond.instanceMethod m_X9_enqueue.1 ∈ gl_tb := List.mem_of_getElem? (i := 589) (by decide +kernel)
theorem lw_X9_enqueue : Cond.selects m_X9_enqueue.1.cls m_X9_enqueue.1 m_X9_enqueue.1 ∈ gl_tb := List.mem_of_getElem? (i := 41) (by decide +kernel)
theorem mw_X9_walk : gl_mw m_X9_walk 2 := ⟨List.mem_of_getElem? (i := 600) (by decide +kernel), List.mem_of_getElem? (i := 98) (by decide +kernel), by decide +kernel, by decide +kernel⟩
theorem iw_X9_walk : Cond.instanceMethod m_X9_walk.1 ∈ gl_tb := List.mem_of_getElem? (i := 599) (by decide +kernel)
theorem lw_X9_walk : Cond.selects m_X9_walk.1.cls m_X9_walk.1 m_X9_walk.1 ∈ gl_tb := List.mem_of_getElem? (i := 43) (by decide +kernel)
theorem mw_X9_lowestNearer : gl_mw m_X9_lowestNearer 1 := ⟨List.mem_of_getElem? (i := 603) (by decide +kernel), List.mem_of_getElem? (i := 98) (by decide +kernel), by decide +kernel, by decide +kernel⟩
theorem iw_X9_lowestNearer : Cond.instanceMethod m_X9_lowestNearer.1 ∈ gl_tb := List.mem_of_getElem? (i := 602) (by decide +kernel)
theorem lw_X9_lowestNearer : Cond.selects m_X9_lowestNearer.1.cls m_X9_lowestNearer.1 m_X9_lowestNearer.1 ∈ gl_tb := List.mem_of_getElem? (i := 44) (by decide +kernel)
theorem mw_X9_sharesSome : gl_mw m_X9_sharesSome 2 := ⟨List.mem_of_getElem? (i := 607) (by decide +kernel), List.mem_of_getElem? (i := 98) (by decide +kernel), by decide +kernel, by decide +kernel⟩
theorem iw_X9_sharesSome : Cond.instanceMethod m_X9_sharesSome.1 ∈ gl_tb := List.mem_of_getElem? (i := 606) (by decide +kernel)
theorem lw_X9_sharesSome : Cond.selects m_X9_sharesSome.1.cls m_X9_sharesSome.1 m_X9_sharesSome.1 ∈ gl_tb := List.mem_of_getElem? (i := 45) (by decide +kernel)
theorem mw_X9_mostDistant : gl_mw m_X9_mostDistant 0 := ⟨List.mem_of_getElem? (i := 615) (by decide +kernel), List.mem_of_getElem? (i := 98) (by decide +kernel), by decide +kernel, by decide +kernel⟩
theorem iw_X9_mostDistant : Cond.instanceMethod m_X9_mostDistant.1 ∈ gl_tb := List.mem_of_getElem? (i := 614) (by decide +kernel)
theorem lw_X9_mostDistant : Cond.selects m_X9_mostDistant.1.cls m_X9_mostDistant.1 m_X9_mostDistant.1 ∈ gl_tb := List.mem_of_getElem? (i := 46) (by decide +kernel)
theorem mw_J_fill : gl_mw m_J_fill 2 := ⟨List.mem_of_getElem? (i := 230) (by decide +kernel), List.mem_of_getElem? (i := 96) (by decide +kernel), by decide +kernel, by decide +kernel⟩
theorem sw_J_fill : Cond.static m_J_fill.1 ∈ gl_tb := List.mem_of_getElem? (i := 229) (by decide +kernel)
end
section
/-! THE MEMORY behind the constructors: cell a holds M a; references stand fast -/
abbrev gl_N : Type := Nat → Nat → Int32
def gl_shape : List ((Bool × Nat) ⊕ (Nat × List (Option Value))) := [.inr (10, [some (.ref 1), some (.ref 11), some (.ref 12), some (.ref 3), some (.ref 20), some (.ref 22), some (.ref 26), some (.ref 29), some (.ref 32), some (.ref 35)]), .inr (7, [some (.ref 2), none]), .inl (false, 130), .inr (0, [none, some (.ref 4), some (.ref 5), some (.ref 6), some (.ref 7), none, some (.ref 8), some (.ref 9), some (.ref 10)]), .inl (false, 6), .inl (false, 24), .inl (false, 6), .inl (false, 6), .inl (false, 6), .inl (false, 24), .inl (false, 24), .inr (4, [some (.ref 1), some (.ref 3), none, none]), .inr (0, [none, some (.ref 13), some (.ref 14), some (.ref 15), some (.ref 16), none, some (.ref 17), some (.ref 18), some (.ref 19)]), .inl (false, 6), .inl (false, 24), .inl (false, 6), .inl (false, 6), .inl (false, 6), .inl (false, 24), .inl (false, 24), .inr (8, [some (.ref 21), none, none]), .inl (false, 16), .inr (2, [some (.ref 23), none, none]), .inr (6, [some (.ref 24), some (.ref 25)]), .inl (false, 10), .inl (false, 160), .inr (6, [some (.ref 27), some (.ref 28)]), .inl (false, 2), .inl (false, 32), .inr (5, [some (.ref 30), some (.ref 31), none]), .inl (false, 8), .inl (false, 8), .inr (9, [some (.ref 12), some (.ref 33), some (.ref 34), none, none]), .inl (false, 144), .inl (false, 144), .inr (1, [some (.ref 12), some (.ref 20), some (.ref 36), some (.ref 37), some (.ref 39), some (.ref 38), none, none, none, none, none]), .inl (false, 9216), .inl (false, 486), .inl (false, 16), .inr (3, [some (.ref 12), some (.ref 20), some (.ref 40), some (.ref 41)]), .inl (true, 144), .inl (false, 486), .inr (11, [none, none, none, some (.ref 43), some (.ref 44), some (.ref 45), none, none, some (.ref 46), some (.ref 47), some (.ref 48), some (.ref 49), none, some (.ref 50), some (.ref 51), none, some (.ref 52), some (.ref 53), none, some (.ref 54), none, none, none, some (.ref 55), some (.ref 56), some (.ref 57), some (.ref 58), none, none]), .inl (false, 30), .inl (false, 54), .inl (false, 24), .inl (false, 30), .inl (false, 54), .inl (false, 17), .inl (false, 170), .inl (false, 34), .inl (true, 2), .inl (false, 8), .inl (false, 8), .inl (false, 130), .inl (false, 144), .inl (false, 144), .inl (false, 9216), .inl (false, 16)]
def gl_cell (M : gl_N) (a : Nat) (e : (Bool × Nat) ⊕ (Nat × List (Option Value))) : gl_E := match e with
  | .inl x => .inl (x.1, x.2, M a)
  | .inr x => .inr (x.1, x.2.mapIdx (fun j v => v.getD (.int (M a j))))
def gl_hp (M : gl_N) : List gl_E := gl_shape.mapIdx (gl_cell M)
def gl_u1 (M : gl_N) (a : Nat) (g : Nat → Int32) : gl_N := fun b => if b = a then g else M b
def gl_u2 (M : gl_N) (a j : Nat) (x : Int32) : gl_N := gl_u1 M a (upd (M a) j x)
def gl_IM : gl_I gl_N := (fun M o ci j => match gl_shape[o]? with
    | some (.inr (c, fs)) => if c = ci then (match fs[j]? with
      | some (some v) => some v
      | some none => some (.int (M o j))
      | none => none) else none
    | _ => none,
  fun M o ci j v => match gl_shape[o]? with
    | some (.inr (c, fs)) => if c = ci then (match fs[j]? with
      | some none => (match v with
        | .int x => some (gl_u2 M o j x)
        | _ => none)
      | _ => none) else none
    | _ => none,
  fun M a => match gl_shape[a]? with
    | some (.inl x) => some (x.1, x.2, M a)
    | _ => none,
  fun M a g => gl_u1 M a g, fun _ => 0, fun _ _ => none)
theorem gl_hp_at (M : gl_N) (a : Nat) : (gl_hp M)[a]? = (gl_shape[a]?).map (gl_cell M a) := by simp [gl_hp, List.getElem?_mapIdx]
theorem gl_hp_u1 (M : gl_N) (a : Nat) (g : Nat → Int32) (e : gl_E) (he : ∀ x, gl_shape[a]? = some x → gl_cell (gl_u1 M a g) a x = e) : gl_hp (gl_u1 M a g) = (gl_hp M).set a e := by
  apply List.ext_getElem?
  intro b
  rw [gl_hp_at, List.getElem?_set]
  by_cases hb : a = b
  · subst hb
    rw [if_pos rfl]
    have hlen : (gl_hp M).length = gl_shape.length := by simp [gl_hp]
    cases hx : gl_shape[a]? with
    | none =>
      have : ¬ a < gl_shape.length := by rw [List.getElem?_eq_none_iff] at hx; omega
      simp [hlen, this]
    | some x =>
      have : a < gl_shape.length := (List.getElem?_eq_some_iff.mp hx).1
      simp [hlen, this, he x hx]
  · rw [if_neg hb, gl_hp_at]
    cases hx : gl_shape[b]? with
    | none => rfl
    | some x =>
      have hM : gl_u1 M a g b = M b := by simp [gl_u1, Ne.symm hb]
      cases x with
      | inl x => simp [gl_cell, hM]
      | inr x => simp [gl_cell, hM]
theorem gl_IM_law : gl_law gl_IM gl_hp := by
  refine ⟨fun M o ci j v hx => ?_, fun M o ci j v M' hx => ?_, fun M a x hx => ?_, fun M a x g hx => ?_, fun M e M' hx => ?_⟩
  · simp only [gl_IM] at hx
    split at hx
    · rename_i c fs hs
      split at hx
      · rename_i hc
        subst hc
        refine ⟨fs.mapIdx (fun j v => v.getD (.int (M o j))), by rw [gl_hp_at, hs]; rfl, ?_⟩
        rw [List.getElem?_mapIdx]
        split at hx
        · rename_i hv; cases hx; rw [hv]; rfl
        · rename_i hv; cases hx; rw [hv]; rfl
        · cases hx
      · cases hx
    · cases hx
  · simp only [gl_IM] at hx
    split at hx
    · rename_i c fs hs
      split at hx
      · rename_i hc
        subst hc
        split at hx
        · rename_i hv
          split at hx
          · rename_i x
            cases hx
            refine ⟨fs.mapIdx (fun j v => v.getD (.int (M o j))), by rw [gl_hp_at, hs]; rfl, by rw [List.length_mapIdx]; exact (List.getElem?_eq_some_iff.mp hv).1, ?_⟩
            refine gl_hp_u1 M o _ _ (fun y hy => ?_)
            rw [hs] at hy
            cases hy
            simp only [gl_cell]
            congr 2
            apply List.ext_getElem?
            intro i
            rw [List.getElem?_set, List.getElem?_mapIdx, List.getElem?_mapIdx, List.length_mapIdx]
            by_cases hi : j = i
            · subst hi
              have : j < fs.length := (List.getElem?_eq_some_iff.mp hv).1
              have hg : fs[j] = none := (List.getElem?_eq_some_iff.mp hv).2
              simp [this, gl_u1, upd, hg]
            · simp [hi, gl_u1, upd, Ne.symm hi]
          · cases hx
        · cases hx
      · cases hx
    · cases hx
  · simp only [gl_IM] at hx
    split at hx
    · rename_i y hs
      cases hx
      rw [gl_hp_at, hs]
      rfl
    · cases hx
  · simp only [gl_IM] at hx
    split at hx
    · rename_i y hs
      cases hx
      refine gl_hp_u1 M a g _ (fun y hy => ?_)
      rw [hs] at hy
      cases hy
      simp [gl_cell, gl_u1]
    · cases hx
  · simp [gl_IM] at hx
def gl_IH : gl_I (List gl_E) := (fun m o ci j => match m[o]? with
    | some (.inr (c, fs)) => if c = ci then fs[j]? else none
    | _ => none,
  fun m o ci j v => match m[o]? with
    | some (.inr (c, fs)) => if c = ci then (if j < fs.length then some (m.set o (.inr (c, fs.set j v))) else none) else none
    | _ => none,
  fun m a => match m[a]? with
    | some (.inl x) => some x
    | _ => none,
  fun m a g => match m[a]? with
    | some (.inl x) => m.set a (.inl (x.1, x.2.1, g))
    | _ => m, fun m => m.length, fun m e => some (m ++ [e]))
theorem gl_IH_law : gl_law gl_IH id := by
  refine ⟨fun M o ci j v hx => ?_, fun M o ci j v M' hx => ?_, fun M a x hx => ?_, fun M a x g hx => ?_, fun M e M' hx => ?_⟩
  · simp only [gl_IH] at hx
    split at hx
    · rename_i c fs hs
      split at hx
      · rename_i hc; subst hc; exact ⟨fs, hs, hx⟩
      · cases hx
    · cases hx
  · simp only [gl_IH] at hx
    split at hx
    · rename_i c fs hs
      split at hx
      · rename_i hc
        subst hc
        split at hx
        · rename_i hj; cases hx; exact ⟨fs, hs, hj, rfl⟩
        · cases hx
      · cases hx
    · cases hx
  · simp only [gl_IH] at hx
    split at hx
    · rename_i y hs; cases hx; exact hs
    · cases hx
  · simp only [gl_IH] at hx ⊢
    split at hx
    · rename_i y hs; cases hx; rfl
    · cases hx
  · simp only [gl_IH] at hx
    cases hx
    exact ⟨rfl, rfl⟩
/-! over the memory M: a place of a method comes to Q; a contract -/
def gv (l : Launch) (sc : Nat × (Nat → Int32)) (Mt : gl_M) (pc : Nat) (ls st : List Value) (M : gl_N) (Q : Option Value → gl_N → Prop) : Prop := gl_Ev l sc Mt pc ls st (gl_hp M) false 0 0 (fun r h' => ∃ M', h' = gl_hp M' ∧ Q r M')
def gr (l : Launch) (sc : Nat × (Nat → Int32)) (Mt : gl_M) (av : List Value) (M : gl_N) (Q : Option Value → gl_N → Prop) : Prop := gl_Ret l sc Mt av (gl_hp M) false 0 0 (fun r h' => ∃ M', h' = gl_hp M' ∧ Q r M')
section GV
variable {l : Launch} {sc : Nat × (Nat → Int32)} {Mt M' : gl_M} {pc : Nat} {ls st : List Value} {M : gl_N} {Q : Option Value → gl_N → Prop}
theorem gl_sub {mn : List MethodName} {c : List (Nat × gl_O)} (h : c.all (gl_ok1 mn Mt) = true) (j n : Nat) : ∀ q ∈ (c.drop j).take n, gl_ok1 mn Mt q = true := fun q hq => List.all_eq_true.mp h q (List.mem_of_mem_drop (List.mem_of_mem_take hq))
theorem gl_dec {mn : List MethodName} {c : List (Nat × gl_O)} (h : c.all (gl_ok1 mn Mt) = true) (j : Nat) {q : Nat × gl_O} (hj : c[j]? = some q) : decode Mt.2.1 q.1 = .ok (q.2.1, gl_len q.2.1) := of_decide_eq_true ((Bool.and_eq_true _ _).mp (List.all_eq_true.mp h q (List.mem_of_getElem? hj))).1
theorem gl_lnk {mn : List MethodName} {c : List (Nat × gl_O)} (h : c.all (gl_ok1 mn Mt) = true) (j : Nat) {p i x y w : Nat} {e : Int32} {v : MethodName} (hj : c[j]? = some (p, .invokevirtual i, x, y, w, e)) (hv : mn[y]? = some v) : gl_lk Mt.1.cls i v := by
  have h1 := ((Bool.and_eq_true _ _).mp (List.all_eq_true.mp h _ (List.mem_of_getElem? hj))).2
  simp only [gl_res, hv] at h1
  rcases (Bool.or_eq_true _ _).mp h1 with g | g
  · exact Or.inl (List.mem_of_getElem? (of_decide_eq_true g))
  · exact Or.inr (List.mem_of_getElem? (of_decide_eq_true g))
theorem gl_lnkS {mn : List MethodName} {c : List (Nat × gl_O)} (h : c.all (gl_ok1 mn Mt) = true) (j : Nat) {p i y w : Nat} {e : Int32} {v : MethodName} (hj : c[j]? = some (p, .invokestatic i, 0, y, w, e)) (hv : mn[y]? = some v) : gl_lk Mt.1.cls i v := by
  have h1 := ((Bool.and_eq_true _ _).mp (List.all_eq_true.mp h _ (List.mem_of_getElem? hj))).2
  simp only [gl_res, hv] at h1
  rcases (Bool.or_eq_true _ _).mp h1 with g | g
  · exact Or.inl (List.mem_of_getElem? (of_decide_eq_true g))
  · exact Or.inr (List.mem_of_getElem? (of_decide_eq_true g))
theorem gl_lnkI {mn : List MethodName} {c : List (Nat × gl_O)} (h : c.all (gl_ok1 mn Mt) = true) (j : Nat) {p i y w : Nat} {e : Int32} {v : MethodName} (hj : c[j]? = some (p, .invokespecial i, 0, y, w, e)) (hv : mn[y]? = some v) : gl_lk Mt.1.cls i v := by
  have h1 := ((Bool.and_eq_true _ _).mp (List.all_eq_true.mp h _ (List.mem_of_getElem? hj))).2
  simp only [gl_res, hv] at h1
  rcases (Bool.or_eq_true _ _).mp h1 with g | g
  · exact Or.inl (List.mem_of_getElem? (of_decide_eq_true g))
  · exact Or.inr (List.mem_of_getElem? (of_decide_eq_true g))
/-- a straight row of instructions -/
theorem gv_seg {mn : List MethodName} {c : List (Nat × gl_O)} (h : c.all (gl_ok1 mn Mt) = true) (j n : Nat) {Ps : List Prop} {pc' : Nat} {ls' st' : List Value} {M2 : gl_N} (hx : gl_X gl_IM sc false ((c.drop j).take n) pc ls st M 0 0 = some (Ps, pc', ls', st', M2, 0, 0)) (hP : gl_all Ps) (K : gv l sc Mt pc' ls' st' M2 Q) : gv l sc Mt pc ls st M Q :=
  gl_run gl_IM_law _ _ _ _ _ _ _ _ _ _ _ _ _ _ (gl_sub h j n) hx hP K
theorem gv_vcall {idx o ci : Nat} {q : vw_C} {fs : List (Option Value)} {As : List Value} {Q' : Option Value → gl_N → Prop} (hd : decode Mt.2.1 pc = .ok (.invokevirtual idx, 3)) (hlk : gl_lk Mt.1.cls idx M'.1) (hm : gl_mw M' As.length) (hi : Cond.instanceMethod M'.1 ∈ gl_tb) (hse : Cond.selects M'.1.cls M'.1 M'.1 ∈ gl_tb) (hcr : gl_cr Mt M') (hcl : gl_cls[ci]? = some q) (hq : q.1 = M'.1.cls) (ho : gl_shape[o]? = some (.inr (ci, fs))) (hst : st.length ≤ 4)
    (hM : gr l sc M' (.ref o :: As) M Q') (K : ∀ (r : Option Value) (M2 : gl_N), Q' r M2 → gv l sc Mt (pc + 3) ls (r.toList ++ st) M2 Q) : gv l sc Mt pc ls (As.reverse ++ .ref o :: st) M Q := by
  refine gl_r_vcall hM hm hi hse hlk hcr hcl hq (fs := fs.mapIdx (fun j v => v.getD (.int (M o j)))) (by rw [gl_hp_at, ho]; rfl) hst (k2 := 0) (n2 := 0) (Nat.le_refl _) (Nat.le_refl _) hd ?_
  intro r h' hq2
  obtain ⟨M2, e, h2⟩ := hq2
  rw [e]
  exact K r M2 h2
theorem gv_scall {idx : Nat} {As : List Value} {Q' : Option Value → gl_N → Prop} (hd : decode Mt.2.1 pc = .ok (.invokestatic idx, 3)) (hlk : gl_lk Mt.1.cls idx M'.1) (hm : gl_mw M' As.length) (hi : Cond.static M'.1 ∈ gl_tb) (hcr : gl_cr Mt M') (hst : st.length ≤ 4)
    (hM : gr l sc M' As M Q') (K : ∀ (r : Option Value) (M2 : gl_N), Q' r M2 → gv l sc Mt (pc + 3) ls (r.toList ++ st) M2 Q) : gv l sc Mt pc ls (As.reverse ++ st) M Q := by
  refine gl_r_scall hM hm hi hlk hcr hst (k2 := 0) (n2 := 0) (Nat.le_refl _) (Nat.le_refl _) hd ?_
  intro r h' hq2
  obtain ⟨M2, e, h2⟩ := hq2
  rw [e]
  exact K r M2 h2
theorem gv_retI {v : Int32} (hd : decode Mt.2.1 pc = .ok (.ireturn, 1)) (hr : Mt.2.2.2.1 = some .int) (hQ : Q (some (.int v)) M) : gv l sc Mt pc ls [.int v] M Q :=
  gl_r_ret (r := some (.int v)) (Or.inr ⟨v, rfl, hd, Or.inl hr⟩) ⟨M, rfl, hQ⟩
theorem gv_retZ {v : Int32} (hd : decode Mt.2.1 pc = .ok (.ireturn, 1)) (hr : Mt.2.2.2.1 = some .boolean) (hv : v = 0 ∨ v = 1) (hQ : Q (some (.int v)) M) : gv l sc Mt pc ls [.int v] M Q :=
  gl_r_ret (r := some (.int v)) (Or.inr ⟨v, rfl, hd, Or.inr ⟨hr, gl_narrow_b hv⟩⟩) ⟨M, rfl, hQ⟩
theorem gv_retV (hd : decode Mt.2.1 pc = .ok (.return_, 1)) (hr : Mt.2.2.2.1 = none) (hQ : Q none M) : gv l sc Mt pc ls [] M Q :=
  gl_r_ret (r := none) (Or.inl ⟨rfl, hr, hd⟩) ⟨M, rfl, hQ⟩
theorem gr_of {av : List Value} (hy : plainName Mt.1.cls = true) (hav : av.length ≤ Mt.2.2.1) (his : ∀ v ∈ av, gl_is v = true) (E : gv l sc Mt 0 (gl_en Mt av) [] M Q) : gr l sc Mt av M Q := gl_meth hy hav his E
end GV
end
