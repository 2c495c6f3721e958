theorem mw_X10_init : gl_mw m_X10_init 0 := ⟨List.mem_of_getElem? (i := 108) (by decide +kernel), List.mem_of_getElem? (i := 89) (by decide +kernel), by decide +kernel, by decide +kernel⟩
theorem iw_X10_init : Cond.instanceMethod m_X10_init.1 ∈ gl_tb := List.mem_of_getElem? (i := 107) (by decide +kernel)
theorem mw_X10_type : gl_mw m_X10_type 1 := ⟨List.mem_of_getElem? (i := 390) (by decide +kernel), List.mem_of_getElem? (i := 89) (by decide +kernel), by decide +kernel, by decide +kernel⟩
theorem iw_X10_type : Cond.instanceMethod m_X10_type.1 ∈ gl_tb := List.mem_of_getElem? (i := 388) (by decide +kernel)
theorem lw_X10_type : Cond.selects m_X10_type.1.cls m_X10_type.1 m_X10_type.1 ∈ gl_tb := List.mem_of_getElem? (i := 389) (by decide +kernel)
theorem mw_X10_clear : gl_mw m_X10_clear 0 := ⟨List.mem_of_getElem? (i := 400) (by decide +kernel), List.mem_of_getElem? (i := 89) (by decide +kernel), by decide +kernel, by decide +kernel⟩
theorem iw_X10_clear : Cond.instanceMethod m_X10_clear.1 ∈ gl_tb := List.mem_of_getElem? (i := 398) (by decide +kernel)
theorem lw_X10_clear : Cond.selects m_X10_clear.1.cls m_X10_clear.1 m_X10_clear.1 ∈ gl_tb := List.mem_of_getElem? (i := 399) (by decide +kernel)
theorem mw_X10_modes : gl_mw m_X10_modes 0 := ⟨List.mem_of_getElem? (i := 404) (by decide +kernel), List.mem_of_getElem? (i := 89) (by decide +kernel), by decide +kernel, by decide +kernel⟩
theorem iw_X10_modes : Cond.instanceMethod m_X10_modes.1 ∈ gl_tb := List.mem_of_getElem? (i := 402) (by decide +kernel)
theorem lw_X10_modes : Cond.selects m_X10_modes.1.cls m_X10_modes.1 m_X10_modes.1 ∈ gl_tb := List.mem_of_getElem? (i := 403) (by decide +kernel)
theorem mw_X10_cell : gl_mw m_X10_cell 2 := ⟨List.mem_of_getElem? (i := 478) (by decide +kernel), List.mem_of_getElem? (i := 89) (by decide +kernel), by decide +kernel, by decide +kernel⟩
theorem iw_X10_cell : Cond.instanceMethod m_X10_cell.1 ∈ gl_tb := List.mem_of_getElem? (i := 476) (by decide +kernel)
theorem lw_X10_cell : Cond.selects m_X10_cell.1.cls m_X10_cell.1 m_X10_cell.1 ∈ gl_tb := List.mem_of_getElem? (i := 477) (by decide +kernel)
theorem mw_X10_part : gl_mw m_X10_part 3 := ⟨List.mem_of_getElem? (i := 485) (by decide +kernel), List.mem_of_getElem? (i := 89) (by decide +kernel), by decide +kernel, by decide +kernel⟩
theorem iw_X10_part : Cond.instanceMethod m_X10_part.1 ∈ gl_tb := List.mem_of_getElem? (i := 483) (by decide +kernel)
theorem lw_X10_part : Cond.selects m_X10_part.1.cls m_X10_part.1 m_X10_part.1 ∈ gl_tb := List.mem_of_getElem? (i := 484) (by decide +kernel)
theorem mw_X10_plays : gl_mw m_X10_plays 1 := ⟨List.mem_of_getElem? (i := 504) (by decide +kernel), List.mem_of_getElem? (i := 89) (by decide +kernel), by decide +kernel, by decide +kernel⟩
theorem iw_X10_plays : Cond.instanceMethod m_X10_plays.1 ∈ gl_tb := List.mem_of_getElem? (i := 502) (by decide +kernel)
theorem lw_X10_plays : Cond.selects m_X10_plays.1.cls m_X10_plays.1 m_X10_plays.1 ∈ gl_tb := List.mem_of_getElem? (i := 503) (by decide +kernel)
theorem mw_X10_cuts : gl_mw m_X10_cuts 0 := ⟨List.mem_of_getElem? (i := 518) (by decide +kernel), List.mem_of_getElem? (i := 89) (by decide +kernel), by decide +kernel, by decide +kernel⟩
theorem iw_X10_cuts : Cond.instanceMethod m_X10_cuts.1 ∈ gl_tb := List.mem_of_getElem? (i := 516) (by decide +kernel)
theorem lw_X10_cuts : Cond.selects m_X10_cuts.1.cls m_X10_cuts.1 m_X10_cuts.1 ∈ gl_tb := List.mem_of_getElem? (i := 517) (by decide +kernel)
theorem mw_X10_mends : gl_mw m_X10_mends 2 := ⟨List.mem_of_getElem? (i := 525) (by decide +kernel), List.mem_of_getElem? (i := 89) (by decide +kernel), by decide +kernel, by decide +kernel⟩
theorem iw_X10_mends : Cond.instanceMethod m_X10_mends.1 ∈ gl_tb := List.mem_of_getElem? (i := 523) (by decide +kernel)
theorem lw_X10_mends : Cond.selects m_X10_mends.1.cls m_X10_mends.1 m_X10_mends.1 ∈ gl_tb := List.mem_of_getElem? (i := 524) (by decide +kernel)
theorem mw_X10_moves : gl_mw m_X10_moves 1 := ⟨List.mem_of_getElem? (i := 535) (by decide +kernel), List.mem_of_getElem? (i := 89) (by decide +kernel), by decide +kernel, by decide +kernel⟩
theorem iw_X10_moves : Cond.instanceMethod m_X10_moves.1 ∈ gl_tb := List.mem_of_getElem? (i := 533) (by decide +kernel)
theorem lw_X10_moves : Cond.selects m_X10_moves.1.cls m_X10_moves.1 m_X10_moves.1 ∈ gl_tb := List.mem_of_getElem? (i := 534) (by decide +kernel)
theorem mw_X10_undo : gl_mw m_X10_undo 0 := ⟨List.mem_of_getElem? (i := 546) (by decide +kernel), List.mem_of_getElem? (i := 89) (by decide +kernel), by decide +kernel, by decide +kernel⟩
theorem iw_X10_undo : Cond.instanceMethod m_X10_undo.1 ∈ gl_tb := List.mem_of_getElem? (i := 544) (by decide +kernel)
theorem lw_X10_undo : Cond.selects m_X10_undo.1.cls m_X10_undo.1 m_X10_undo.1 ∈ gl_tb := List.mem_of_getElem? (i := 545) (by decide +kernel)
theorem mw_X10_note : gl_mw m_X10_note 1 := ⟨List.mem_of_getElem? (i := 556) (by decide +kernel), List.mem_of_getElem? (i := 89) (by decide +kernel), by decide +kernel, by decide +kernel⟩
theorem iw_X10_note : Cond.instanceMethod m_X10_note.1 ∈ gl_tb := List.mem_of_getElem? (i := 554) (by decide +kernel)
theorem lw_X10_note : Cond.selects m_X10_note.1.cls m_X10_note.1 m_X10_note.1 ∈ gl_tb := List.mem_of_getElem? (i := 555) (by decide +kernel)
theorem mw_X10_has : gl_mw m_X10_has 2 := ⟨List.mem_of_getElem? (i := 560) (by decide +kernel), List.mem_of_getElem? (i := 89) (by decide +kernel), by decide +kernel, by decide +kernel⟩
theorem iw_X10_has : Cond.instanceMethod m_X10_has.1 ∈ gl_tb := List.mem_of_getElem? (i := 558) (by decide +kernel)
theorem lw_X10_has : Cond.selects m_X10_has.1.cls m_X10_has.1 m_X10_has.1 ∈ gl_tb := List.mem_of_getElem? (i := 559) (by decide +kernel)
theorem mw_X10_shares : gl_mw m_X10_shares 3 := ⟨List.mem_of_getElem? (i := 573) (by decide +kernel), List.mem_of_getElem? (i := 89) (by decide +kernel), by decide +kernel, by decide +kernel⟩
theorem iw_X10_shares : Cond.instanceMethod m_X10_shares.1 ∈ gl_tb := List.mem_of_getElem? (i := 571) (by decide +kernel)
theorem lw_X10_shares : Cond.selects m_X10_shares.1.cls m_X10_shares.1 m_X10_shares.1 ∈ gl_tb := List.mem_of_getElem? (i := 572) (by decide +kernel)
theorem mw_X10_way : gl_mw m_X10_way 3 := ⟨List.mem_of_getElem? (i := 583) (by decide +kernel), List.mem_of_getElem? (i := 89) (by decide +kernel), by decide +kernel, by decide +kernel⟩
theorem iw_X10_way : Cond.instanceMethod m_X10_way.1 ∈ gl_tb := List.mem_of_getElem? (i := 581) (by decide +kernel)
theorem lw_X10_way : Cond.selects m_X10_way.1.cls m_X10_way.1 m_X10_way.1 ∈ gl_tb := List.mem_of_getElem? (i := 582) (by decide +kernel)
theorem mw_X10_farthest : gl_mw m_X10_farthest 2 := ⟨List.mem_of_getElem? (i := 612) (by decide +kernel), List.mem_of_getElem? (i := 89) (by decide +kernel), by decide +kernel, by decide +kernel⟩
theorem iw_X10_farthest : Cond.instanceMethod m_X10_farthest.1 ∈ gl_tb := List.mem_of_getElem? (i := 610) (by decide +kernel)
theorem lw_X10_farthest : Cond.selects m_X10_farthest.1.cls m_X10_farthest.1 m_X10_farthest.1 ∈ gl_tb := List.mem_of_getElem? (i := 611) (by decide +kernel)
theorem mw_X10_parse : gl_mw m_X10_parse 1 := ⟨List.mem_of_getElem? (i := 619) (by decide +kernel), List.mem_of_getElem? (i := 89) (by decide +kernel), by decide +kernel, by decide +kernel⟩
theorem iw_X10_parse : Cond.instanceMethod m_X10_parse.1 ∈ gl_tb := List.mem_of_getElem? (i := 617) (by decide +kernel)
theorem lw_X10_parse : Cond.selects m_X10_parse.1.cls m_X10_parse.1 m_X10_parse.1 ∈ gl_tb := List.mem_of_getElem? (i := 618) (by decide +kernel)
theorem mw_X10_parsed : gl_mw m_X10_parsed 2 := ⟨List.mem_of_getElem? (i := 684) (by decide +kernel), List.mem_of_getElem? (i := 89) (by decide +kernel), by decide +kernel, by decide +kernel⟩
theorem iw_X10_parsed : Cond.instanceMethod m_X10_parsed.1 ∈ gl_tb := List.mem_of_getElem? (i := 682) (by decide +kernel)
theorem lw_X10_parsed : Cond.selects m_X10_parsed.1.cls m_X10_parsed.1 m_X10_parsed.1 ∈ gl_tb := List.mem_of_getElem? (i := 683) (by decide +kernel)
theorem mw_X10_reach : gl_mw m_X10_reach 0 := ⟨List.mem_of_getElem? (i := 690) (by decide +kernel), List.mem_of_getElem? (i := 89) (by decide +kernel), by decide +kernel, by decide +kernel⟩
theorem iw_X10_reach : Cond.instanceMethod m_X10_reach.1 ∈ gl_tb := List.mem_of_getElem? (i := 688) (by decide +kernel)
theorem lw_X10_reach : Cond.selects m_X10_reach.1.cls m_X10_reach.1 m_X10_reach.1 ∈ gl_tb := List.mem_of_getElem? (i := 689) (by decide +kernel)
theorem mw_X10_fit : gl_mw m_X10_fit 1 := ⟨List.mem_of_getElem? (i := 694) (by decide +kernel), List.mem_of_getElem? (i := 89) (by decide +kernel), by decide +kernel, by decide +kernel⟩
theorem iw_X10_fit : Cond.instanceMethod m_X10_fit.1 ∈ gl_tb := List.mem_of_getElem? (i := 692) (by decide +kernel)
theorem lw_X10_fit : Cond.selects m_X10_fit.1.cls m_X10_fit.1 m_X10_fit.1 ∈ gl_tb := List.mem_of_getElem? (i := 693) (by decide +kernel)
theorem mw_X10_home : gl_mw m_X10_home 0 := ⟨List.mem_of_getElem? (i := 701) (by decide +kernel), List.mem_of_getElem? (i := 89) (by decide +kernel), by decide +kernel, by decide +kernel⟩
theorem iw_X10_home : Cond.instanceMethod m_X10_home.1 ∈ gl_tb := List.mem_of_getElem? (i := 699) (by decide +kernel)
theorem lw_X10_home : Cond.selects m_X10_home.1.cls m_X10_home.1 m_X10_home.1 ∈ gl_tb := List.mem_of_getElem? (i := 700) (by decide +kernel)
theorem mw_X10_sees : gl_mw m_X10_sees 2 := ⟨List.mem_of_getElem? (i := 706) (by decide +kernel), List.mem_of_getElem? (i := 89) (by decide +kernel), by decide +kernel, by decide +kernel⟩
theorem iw_X10_sees : Cond.instanceMethod m_X10_sees.1 ∈ gl_tb := List.mem_of_getElem? (i := 704) (by decide +kernel)
theorem lw_X10_sees : Cond.selects m_X10_sees.1.cls m_X10_sees.1 m_X10_sees.1 ∈ gl_tb := List.mem_of_getElem? (i := 705) (by decide +kernel)
theorem mw_X10_forget : gl_mw m_X10_forget 0 := ⟨List.mem_of_getElem? (i := 713) (by decide +kernel), List.mem_of_getElem? (i := 89) (by decide +kernel), by decide +kernel, by decide +kernel⟩
theorem iw_X10_forget : Cond.instanceMethod m_X10_forget.1 ∈ gl_tb := List.mem_of_getElem? (i := 711) (by decide +kernel)
theorem lw_X10_forget : Cond.selects m_X10_forget.1.cls m_X10_forget.1 m_X10_forget.1 ∈ gl_tb := List.mem_of_getElem? (i := 712) (by decide +kernel)
theorem mw_X10_unseen : gl_mw m_X10_unseen 0 := ⟨List.mem_of_getElem? (i := 717) (by decide +kernel), List.mem_of_getElem? (i := 89) (by decide +kernel), by decide +kernel, by decide +kernel⟩
theorem iw_X10_unseen : Cond.instanceMethod m_X10_unseen.1 ∈ gl_tb := List.mem_of_getElem? (i := 715) (by decide +kernel)
theorem lw_X10_unseen : Cond.selects m_X10_unseen.1.cls m_X10_unseen.1 m_X10_unseen.1 ∈ gl_tb := List.mem_of_getElem? (i := 716) (by decide +kernel)
theorem mw_X10_keep : gl_mw m_X10_keep 1 := ⟨List.mem_of_getElem? (i := 725) (by decide +kernel), List.mem_of_getElem? (i := 89) (by decide +kernel), by decide +kernel, by decide +kernel⟩
theorem iw_X10_keep : Cond.instanceMethod m_X10_keep.1 ∈ gl_tb := List.mem_of_getElem? (i := 723) (by decide +kernel)
theorem lw_X10_keep : Cond.selects m_X10_keep.1.cls m_X10_keep.1 m_X10_keep.1 ∈ gl_tb := List.mem_of_getElem? (i := 724) (by decide +kernel)
theorem mw_X10_back : gl_mw m_X10_back 1 := ⟨List.mem_of_getElem? (i := 730) (by decide +kernel), List.mem_of_getElem? (i := 89) (by decide +kernel), by decide +kernel, by decide +kernel⟩
theorem iw_X10_back : Cond.instanceMethod m_X10_back.1 ∈ gl_tb := List.mem_of_getElem? (i := 728) (by decide +kernel)
theorem lw_X10_back : Cond.selects m_X10_back.1.cls m_X10_back.1 m_X10_back.1 ∈ gl_tb := List.mem_of_getElem? (i := 729) (by decide +kernel)
theorem mw_X10_count : gl_mw m_X10_count 1 := ⟨List.mem_of_getElem? (i := 738) (by decide +kernel), List.mem_of_getElem? (i := 89) (by decide +kernel), by decide +kernel, by decide +kernel⟩
theorem iw_X10_count : Cond.instanceMethod m_X10_count.1 ∈ gl_tb := List.mem_of_getElem? (i := 736) (by decide +kernel)
theorem lw_X10_count : Cond.selects m_X10_count.1.cls m_X10_count.1 m_X10_count.1 ∈ gl_tb := List.mem_of_getElem? (i := 737) (by decide +kernel)
theorem mw_X10_fitOf : gl_mw m_X10_fitOf 1 := ⟨List.mem_of_getElem? (i := 697) (by decide +kernel), List.mem_of_getElem? (i := 89) (by decide +kernel), by decide +kernel, by decide +kernel⟩
theorem iw_X10_fitOf : Cond.instanceMethod m_X10_fitOf.1 ∈ gl_tb := List.mem_of_getElem? (i := 696) (by decide +kernel)
theorem lw_X10_fitOf : Cond.selects m_X10_fitOf.1.cls m_X10_fitOf.1 m_X10_fitOf.1 ∈ gl_tb := List.mem_of_getElem? (i := 60) (by decide +kernel)
theorem mw_X10_within : gl_mw m_X10_within 3 := ⟨List.mem_of_getElem? (i := 393) (by decide +kernel), List.mem_of_getElem? (i := 89) (by decide +kernel), by decide +kernel, by decide +kernel⟩
theorem sw_X10_within : Cond.static m_X10_within.1 ∈ gl_tb := List.mem_of_getElem? (i := 392) (by decide +kernel)
theorem mw_X10_spotOf : gl_mw m_X10_spotOf 2 := ⟨List.mem_of_getElem? (i := 633) (by decide +kernel), List.mem_of_getElem? (i := 89) (by decide +kernel), by decide +kernel, by decide +kernel⟩
theorem sw_X10_spotOf : Cond.static m_X10_spotOf.1 ∈ gl_tb := List.mem_of_getElem? (i := 632) (by decide +kernel)
theorem mw_X10_scaleOfSpot : gl_mw m_X10_scaleOfSpot 1 := ⟨List.mem_of_getElem? (i := 659) (by decide +kernel), List.mem_of_getElem? (i := 89) (by decide +kernel), by decide +kernel, by decide +kernel⟩
theorem sw_X10_scaleOfSpot : Cond.static m_X10_scaleOfSpot.1 ∈ gl_tb := List.mem_of_getElem? (i := 658) (by decide +kernel)
theorem mw_X10_partOfSpot : gl_mw m_X10_partOfSpot 1 := ⟨List.mem_of_getElem? (i := 662) (by decide +kernel), List.mem_of_getElem? (i := 89) (by decide +kernel), by decide +kernel, by decide +kernel⟩
theorem sw_X10_partOfSpot : Cond.static m_X10_partOfSpot.1 ∈ gl_tb := List.mem_of_getElem? (i := 661) (by decide +kernel)
theorem mw_X11_init : gl_mw m_X11_init 0 := ⟨List.mem_of_getElem? (i := 743) (by decide +kernel), List.mem_of_getElem? (i := 101) (by decide +kernel), by decide +kernel, by decide +kernel⟩
theorem iw_X11_init : Cond.instanceMethod m_X11_init.1 ∈ gl_tb := List.mem_of_getElem? (i := 742) (by decide +kernel)
theorem mw_X11_in : gl_mw m_X11_in 3 := ⟨List.mem_of_getElem? (i := 839) (by decide +kernel), List.mem_of_getElem? (i := 101) (by decide +kernel), by decide +kernel, by decide +kernel⟩
theorem sw_X11_in : Cond.static m_X11_in.1 ∈ gl_tb := List.mem_of_getElem? (i := 838) (by decide +kernel)
theorem mw_X11_isScale : gl_mw m_X11_isScale 1 := ⟨List.mem_of_getElem? (i := 879) (by decide +kernel), List.mem_of_getElem? (i := 101) (by decide +kernel), by decide +kernel, by decide +kernel⟩
theorem iw_X11_isScale : Cond.instanceMethod m_X11_isScale.1 ∈ gl_tb := List.mem_of_getElem? (i := 878) (by decide +kernel)
theorem lw_X11_isScale : Cond.selects m_X11_isScale.1.cls m_X11_isScale.1 m_X11_isScale.1 ∈ gl_tb := List.mem_of_getElem? (i := 71) (by decide +kernel)
theorem mw_X11_isNote : gl_mw m_X11_isNote 1 := ⟨List.mem_of_getElem? (i := 949) (by decide +kernel), List.mem_of_getElem? (i := 101) (by decide +kernel), by decide +kernel, by decide +kernel⟩
theorem iw_X11_isNote : Cond.instanceMethod m_X11_isNote.1 ∈ gl_tb := List.mem_of_getElem? (i := 948) (by decide +kernel)
theorem lw_X11_isNote : Cond.selects m_X11_isNote.1.cls m_X11_isNote.1 m_X11_isNote.1 ∈ gl_tb := List.mem_of_getElem? (i := 85) (by decide +kernel)
theorem mw_X11_type : gl_mw m_X11_type 1 := ⟨List.mem_of_getElem? (i := 836) (by decide +kernel), List.mem_of_getElem? (i := 101) (by decide +kernel), by decide +kernel, by decide +kernel⟩
theorem iw_X11_type : Cond.instanceMethod m_X11_type.1 ∈ gl_tb := List.mem_of_getElem? (i := 834) (by decide +kernel)
theorem lw_X11_type : Cond.selects m_X11_type.1.cls m_X11_type.1 m_X11_type.1 ∈ gl_tb := List.mem_of_getElem? (i := 835) (by decide +kernel)
theorem mw_X11_clear : gl_mw m_X11_clear 0 := ⟨List.mem_of_getElem? (i := 843) (by decide +kernel), List.mem_of_getElem? (i := 101) (by decide +kernel), by decide +kernel, by decide +kernel⟩
theorem iw_X11_clear : Cond.instanceMethod m_X11_clear.1 ∈ gl_tb := List.mem_of_getElem? (i := 841) (by decide +kernel)
theorem lw_X11_clear : Cond.selects m_X11_clear.1.cls m_X11_clear.1 m_X11_clear.1 ∈ gl_tb := List.mem_of_getElem? (i := 842) (by decide +kernel)
theorem mw_X11_isFigure : gl_mw m_X11_isFigure 1 := ⟨List.mem_of_getElem? (i := 853) (by decide +kernel), List.mem_of_getElem? (i := 101) (by decide +kernel), by decide +kernel, by decide +kernel⟩
theorem iw_X11_isFigure : Cond.instanceMethod m_X11_isFigure.1 ∈ gl_tb := List.mem_of_getElem? (i := 852) (by decide +kernel)
theorem lw_X11_isFigure : Cond.selects m_X11_isFigure.1.cls m_X11_isFigure.1 m_X11_isFigure.1 ∈ gl_tb := List.mem_of_getElem? (i := 65) (by decide +kernel)
theorem mw_X11_takes : gl_mw m_X11_takes 0 := ⟨List.mem_of_getElem? (i := 850) (by decide +kernel), List.mem_of_getElem? (i := 101) (by decide +kernel), by decide +kernel, by decide +kernel⟩
theorem iw_X11_takes : Cond.instanceMethod m_X11_takes.1 ∈ gl_tb := List.mem_of_getElem? (i := 849) (by decide +kernel)
theorem lw_X11_takes : Cond.selects m_X11_takes.1.cls m_X11_takes.1 m_X11_takes.1 ∈ gl_tb := List.mem_of_getElem? (i := 64) (by decide +kernel)
theorem mw_X11_isNumber : gl_mw m_X11_isNumber 2 := ⟨List.mem_of_getElem? (i := 859) (by decide +kernel), List.mem_of_getElem? (i := 101) (by decide +kernel), by decide +kernel, by decide +kernel⟩
theorem iw_X11_isNumber : Cond.instanceMethod m_X11_isNumber.1 ∈ gl_tb := List.mem_of_getElem? (i := 858) (by decide +kernel)
theorem lw_X11_isNumber : Cond.selects m_X11_isNumber.1.cls m_X11_isNumber.1 m_X11_isNumber.1 ∈ gl_tb := List.mem_of_getElem? (i := 67) (by decide +kernel)
theorem mw_X11_readsCell : gl_mw m_X11_readsCell 0 := ⟨List.mem_of_getElem? (i := 856) (by decide +kernel), List.mem_of_getElem? (i := 101) (by decide +kernel), by decide +kernel, by decide +kernel⟩
theorem iw_X11_readsCell : Cond.instanceMethod m_X11_readsCell.1 ∈ gl_tb := List.mem_of_getElem? (i := 855) (by decide +kernel)
theorem lw_X11_readsCell : Cond.selects m_X11_readsCell.1.cls m_X11_readsCell.1 m_X11_readsCell.1 ∈ gl_tb := List.mem_of_getElem? (i := 66) (by decide +kernel)
theorem mw_X11_readsMode : gl_mw m_X11_readsMode 0 := ⟨List.mem_of_getElem? (i := 862) (by decide +kernel), List.mem_of_getElem? (i := 101) (by decide +kernel), by decide +kernel, by decide +kernel⟩
theorem iw_X11_readsMode : Cond.instanceMethod m_X11_readsMode.1 ∈ gl_tb := List.mem_of_getElem? (i := 861) (by decide +kernel)
theorem lw_X11_readsMode : Cond.selects m_X11_readsMode.1.cls m_X11_readsMode.1 m_X11_readsMode.1 ∈ gl_tb := List.mem_of_getElem? (i := 68) (by decide +kernel)
theorem mw_X11_becomes : gl_mw m_X11_becomes 0 := ⟨List.mem_of_getElem? (i := 865) (by decide +kernel), List.mem_of_getElem? (i := 101) (by decide +kernel), by decide +kernel, by decide +kernel⟩
theorem iw_X11_becomes : Cond.instanceMethod m_X11_becomes.1 ∈ gl_tb := List.mem_of_getElem? (i := 864) (by decide +kernel)
theorem lw_X11_becomes : Cond.selects m_X11_becomes.1.cls m_X11_becomes.1 m_X11_becomes.1 ∈ gl_tb := List.mem_of_getElem? (i := 69) (by decide +kernel)
theorem mw_X11_modes : gl_mw m_X11_modes 0 := ⟨List.mem_of_getElem? (i := 847) (by decide +kernel), List.mem_of_getElem? (i := 101) (by decide +kernel), by decide +kernel, by decide +kernel⟩
theorem iw_X11_modes : Cond.instanceMethod m_X11_modes.1 ∈ gl_tb := List.mem_of_getElem? (i := 845) (by decide +kernel)
theorem lw_X11_modes : Cond.selects m_X11_modes.1.cls m_X11_modes.1 m_X11_modes.1 ∈ gl_tb := List.mem_of_getElem? (i := 846) (by decide +kernel)
theorem mw_X11_span : gl_mw m_X11_span 1 := ⟨List.mem_of_getElem? (i := 868) (by decide +kernel), List.mem_of_getElem? (i := 101) (by decide +kernel), by decide +kernel, by decide +kernel⟩
theorem iw_X11_span : Cond.instanceMethod m_X11_span.1 ∈ gl_tb := List.mem_of_getElem? (i := 867) (by decide +kernel)
theorem lw_X11_span : Cond.selects m_X11_span.1.cls m_X11_span.1 m_X11_span.1 ∈ gl_tb := List.mem_of_getElem? (i := 70) (by decide +kernel)
theorem mw_X11_isIn : gl_mw m_X11_isIn 3 := ⟨List.mem_of_getElem? (i := 901) (by decide +kernel), List.mem_of_getElem? (i := 101) (by decide +kernel), by decide +kernel, by decide +kernel⟩
theorem iw_X11_isIn : Cond.instanceMethod m_X11_isIn.1 ∈ gl_tb := List.mem_of_getElem? (i := 900) (by decide +kernel)
theorem lw_X11_isIn : Cond.selects m_X11_isIn.1.cls m_X11_isIn.1 m_X11_isIn.1 ∈ gl_tb := List.mem_of_getElem? (i := 77) (by decide +kernel)
theorem mw_X11_parts : gl_mw m_X11_parts 1 := ⟨List.mem_of_getElem? (i := 882) (by decide +kernel), List.mem_of_getElem? (i := 101) (by decide +kernel), by decide +kernel, by decide +kernel⟩
theorem iw_X11_parts : Cond.instanceMethod m_X11_parts.1 ∈ gl_tb := List.mem_of_getElem? (i := 881) (by decide +kernel)
theorem lw_X11_parts : Cond.selects m_X11_parts.1.cls m_X11_parts.1 m_X11_parts.1 ∈ gl_tb := List.mem_of_getElem? (i := 72) (by decide +kernel)
theorem mw_X11_cellOf : gl_mw m_X11_cellOf 2 := ⟨List.mem_of_getElem? (i := 885) (by decide +kernel), List.mem_of_getElem? (i := 101) (by decide +kernel), by decide +kernel, by decide +kernel⟩
theorem iw_X11_cellOf : Cond.instanceMethod m_X11_cellOf.1 ∈ gl_tb := List.mem_of_getElem? (i := 884) (by decide +kernel)
theorem lw_X11_cellOf : Cond.selects m_X11_cellOf.1.cls m_X11_cellOf.1 m_X11_cellOf.1 ∈ gl_tb := List.mem_of_getElem? (i := 73) (by decide +kernel)
theorem mw_X11_pitchOf : gl_mw m_X11_pitchOf 2 := ⟨List.mem_of_getElem? (i := 888) (by decide +kernel), List.mem_of_getElem? (i := 101) (by decide +kernel), by decide +kernel, by decide +kernel⟩
theorem iw_X11_pitchOf : Cond.instanceMethod m_X11_pitchOf.1 ∈ gl_tb := List.mem_of_getElem? (i := 887) (by decide +kernel)
theorem lw_X11_pitchOf : Cond.selects m_X11_pitchOf.1.cls m_X11_pitchOf.1 m_X11_pitchOf.1 ∈ gl_tb := List.mem_of_getElem? (i := 74) (by decide +kernel)
theorem mw_X11_isInPart : gl_mw m_X11_isInPart 3 := ⟨List.mem_of_getElem? (i := 898) (by decide +kernel), List.mem_of_getElem? (i := 101) (by decide +kernel), by decide +kernel, by decide +kernel⟩
theorem iw_X11_isInPart : Cond.instanceMethod m_X11_isInPart.1 ∈ gl_tb := List.mem_of_getElem? (i := 897) (by decide +kernel)
theorem lw_X11_isInPart : Cond.selects m_X11_isInPart.1.cls m_X11_isInPart.1 m_X11_isInPart.1 ∈ gl_tb := List.mem_of_getElem? (i := 76) (by decide +kernel)
theorem mw_X11_sameIn : gl_mw m_X11_sameIn 3 := ⟨List.mem_of_getElem? (i := 908) (by decide +kernel), List.mem_of_getElem? (i := 101) (by decide +kernel), by decide +kernel, by decide +kernel⟩
theorem iw_X11_sameIn : Cond.instanceMethod m_X11_sameIn.1 ∈ gl_tb := List.mem_of_getElem? (i := 907) (by decide +kernel)
theorem lw_X11_sameIn : Cond.selects m_X11_sameIn.1.cls m_X11_sameIn.1 m_X11_sameIn.1 ∈ gl_tb := List.mem_of_getElem? (i := 78) (by decide +kernel)
theorem mw_X11_share : gl_mw m_X11_share 2 := ⟨List.mem_of_getElem? (i := 918) (by decide +kernel), List.mem_of_getElem? (i := 101) (by decide +kernel), by decide +kernel, by decide +kernel⟩
theorem iw_X11_share : Cond.instanceMethod m_X11_share.1 ∈ gl_tb := List.mem_of_getElem? (i := 917) (by decide +kernel)
theorem lw_X11_share : Cond.selects m_X11_share.1.cls m_X11_share.1 m_X11_share.1 ∈ gl_tb := List.mem_of_getElem? (i := 80) (by decide +kernel)
theorem mw_X11_cell : gl_mw m_X11_cell 2 := ⟨List.mem_of_getElem? (i := 872) (by decide +kernel), List.mem_of_getElem? (i := 101) (by decide +kernel), by decide +kernel, by decide +kernel⟩
theorem iw_X11_cell : Cond.instanceMethod m_X11_cell.1 ∈ gl_tb := List.mem_of_getElem? (i := 870) (by decide +kernel)
theorem lw_X11_cell : Cond.selects m_X11_cell.1.cls m_X11_cell.1 m_X11_cell.1 ∈ gl_tb := List.mem_of_getElem? (i := 871) (by decide +kernel)
theorem mw_X11_part : gl_mw m_X11_part 3 := ⟨List.mem_of_getElem? (i := 876) (by decide +kernel), List.mem_of_getElem? (i := 101) (by decide +kernel), by decide +kernel, by decide +kernel⟩
theorem iw_X11_part : Cond.instanceMethod m_X11_part.1 ∈ gl_tb := List.mem_of_getElem? (i := 874) (by decide +kernel)
theorem lw_X11_part : Cond.selects m_X11_part.1.cls m_X11_part.1 m_X11_part.1 ∈ gl_tb := List.mem_of_getElem? (i := 875) (by decide +kernel)
theorem mw_X11_manyHave : gl_mw m_X11_manyHave 2 := ⟨List.mem_of_getElem? (i := 895) (by decide +kernel), List.mem_of_getElem? (i := 101) (by decide +kernel), by decide +kernel, by decide +kernel⟩
theorem iw_X11_manyHave : Cond.instanceMethod m_X11_manyHave.1 ∈ gl_tb := List.mem_of_getElem? (i := 894) (by decide +kernel)
theorem lw_X11_manyHave : Cond.selects m_X11_manyHave.1.cls m_X11_manyHave.1 m_X11_manyHave.1 ∈ gl_tb := List.mem_of_getElem? (i := 75) (by decide +kernel)
theorem mw_X11_has : gl_mw m_X11_has 2 := ⟨List.mem_of_getElem? (i := 892) (by decide +kernel), List.mem_of_getElem? (i := 101) (by decide +kernel), by decide +kernel, by decide +kernel⟩
theorem iw_X11_has : Cond.instanceMethod m_X11_has.1 ∈ gl_tb := List.mem_of_getElem? (i := 890) (by decide +kernel)
theorem lw_X11_has : Cond.selects m_X11_has.1.cls m_X11_has.1 m_X11_has.1 ∈ gl_tb := List.mem_of_getElem? (i := 891) (by decide +kernel)
theorem mw_X11_shares : gl_mw m_X11_shares 3 := ⟨List.mem_of_getElem? (i := 905) (by decide +kernel), List.mem_of_getElem? (i := 101) (by decide +kernel), by decide +kernel, by decide +kernel⟩
theorem iw_X11_shares : Cond.instanceMethod m_X11_shares.1 ∈ gl_tb := List.mem_of_getElem? (i := 903) (by decide +kernel)
theorem lw_X11_shares : Cond.selects m_X11_shares.1.cls m_X11_shares.1 m_X11_shares.1 ∈ gl_tb := List.mem_of_getElem? (i := 904) (by decide +kernel)
theorem mw_X11_laysFar : gl_mw m_X11_laysFar 1 := ⟨List.mem_of_getElem? (i := 915) (by decide +kernel), List.mem_of_getElem? (i := 101) (by decide +kernel), by decide +kernel, by decide +kernel⟩
theorem iw_X11_laysFar : Cond.instanceMethod m_X11_laysFar.1 ∈ gl_tb := List.mem_of_getElem? (i := 914) (by decide +kernel)
theorem lw_X11_laysFar : Cond.selects m_X11_laysFar.1.cls m_X11_laysFar.1 m_X11_laysFar.1 ∈ gl_tb := List.mem_of_getElem? (i := 79) (by decide +kernel)
theorem mw_X11_way : gl_mw m_X11_way 3 := ⟨List.mem_of_getElem? (i := 912) (by decide +kernel), List.mem_of_getElem? (i := 101) (by decide +kernel), by decide +kernel, by decide +kernel⟩
theorem iw_X11_way : Cond.instanceMethod m_X11_way.1 ∈ gl_tb := List.mem_of_getElem? (i := 910) (by decide +kernel)
theorem lw_X11_way : Cond.selects m_X11_way.1.cls m_X11_way.1 m_X11_way.1 ∈ gl_tb := List.mem_of_getElem? (i := 911) (by decide +kernel)
theorem mw_X11_farthest : gl_mw m_X11_farthest 2 := ⟨List.mem_of_getElem? (i := 922) (by decide +kernel), List.mem_of_getElem? (i := 101) (by decide +kernel), by decide +kernel, by decide +kernel⟩
theorem iw_X11_farthest : Cond.instanceMethod m_X11_farthest.1 ∈ gl_tb := List.mem_of_getElem? (i := 920) (by decide +kernel)
theorem lw_X11_farthest : Cond.selects m_X11_farthest.1.cls m_X11_farthest.1 m_X11_farthest.1 ∈ gl_tb := List.mem_of_getElem? (i := 921) (by decide +kernel)
theorem mw_X11_state : gl_mw m_X11_state 3 := ⟨List.mem_of_getElem? (i := 936) (by decide +kernel), List.mem_of_getElem? (i := 101) (by decide +kernel), by decide +kernel, by decide +kernel⟩
theorem sw_X11_state : Cond.static m_X11_state.1 ∈ gl_tb := List.mem_of_getElem? (i := 935) (by decide +kernel)
theorem mw_X11_step : gl_mw m_X11_step 4 := ⟨List.mem_of_getElem? (i := 942) (by decide +kernel), List.mem_of_getElem? (i := 101) (by decide +kernel), by decide +kernel, by decide +kernel⟩
theorem iw_X11_step : Cond.instanceMethod m_X11_step.1 ∈ gl_tb := List.mem_of_getElem? (i := 941) (by decide +kernel)
theorem lw_X11_step : Cond.selects m_X11_step.1.cls m_X11_step.1 m_X11_step.1 ∈ gl_tb := List.mem_of_getElem? (i := 84) (by decide +kernel)
theorem mw_X11_leastFrom : gl_mw m_X11_leastFrom 3 := ⟨List.mem_of_getElem? (i := 933) (by decide +kernel), List.mem_of_getElem? (i := 101) (by decide +kernel), by decide +kernel, by decide +kernel⟩
theorem iw_X11_leastFrom : Cond.instanceMethod m_X11_leastFrom.1 ∈ gl_tb := List.mem_of_getElem? (i := 932) (by decide +kernel)
theorem lw_X11_leastFrom : Cond.selects m_X11_leastFrom.1.cls m_X11_leastFrom.1 m_X11_leastFrom.1 ∈ gl_tb := List.mem_of_getElem? (i := 82) (by decide +kernel)
theorem mw_X11_laysCosts : gl_mw m_X11_laysCosts 0 := ⟨List.mem_of_getElem? (i := 929) (by decide +kernel), List.mem_of_getElem? (i := 101) (by decide +kernel), by decide +kernel, by decide +kernel⟩
theorem iw_X11_laysCosts : Cond.instanceMethod m_X11_laysCosts.1 ∈ gl_tb := List.mem_of_getElem? (i := 928) (by decide +kernel)
theorem lw_X11_laysCosts : Cond.selects m_X11_laysCosts.1.cls m_X11_laysCosts.1 m_X11_laysCosts.1 ∈ gl_tb := List.mem_of_getElem? (i := 81) (by decide +kernel)
theorem mw_X11_laysParse : gl_mw m_X11_laysParse 1 := ⟨List.mem_of_getElem? (i := 939) (by decide +kernel), List.mem_of_getElem? (i := 101) (by decide +kernel), by decide +kernel, by decide +kernel⟩
theorem iw_X11_laysParse : Cond.instanceMethod m_X11_laysParse.1 ∈ gl_tb := List.mem_of_getElem? (i := 938) (by decide +kernel)
theorem lw_X11_laysParse : Cond.selects m_X11_laysParse.1.cls m_X11_laysParse.1 m_X11_laysParse.1 ∈ gl_tb := List.mem_of_getElem? (i := 83) (by decide +kernel)
theorem mw_X11_parse : gl_mw m_X11_parse 1 := ⟨List.mem_of_getElem? (i := 926) (by decide +kernel), List.mem_of_getElem? (i := 101) (by decide +kernel), by decide +kernel, by decide +kernel⟩
theorem iw_X11_parse : Cond.instanceMethod m_X11_parse.1 ∈ gl_tb := List.mem_of_getElem? (i := 924) (by decide +kernel)
theorem lw_X11_parse : Cond.selects m_X11_parse.1.cls m_X11_parse.1 m_X11_parse.1 ∈ gl_tb := List.mem_of_getElem? (i := 925) (by decide +kernel)
theorem mw_X11_parsed : gl_mw m_X11_parsed 2 := ⟨List.mem_of_getElem? (i := 946) (by decide +kernel), List.mem_of_getElem? (i := 101) (by decide +kernel), by decide +kernel, by decide +kernel⟩
theorem iw_X11_parsed : Cond.instanceMethod m_X11_parsed.1 ∈ gl_tb := List.mem_of_getElem? (i := 944) (by decide +kernel)
theorem lw_X11_parsed : Cond.selects m_X11_parsed.1.cls m_X11_parsed.1 m_X11_parsed.1 ∈ gl_tb := List.mem_of_getElem? (i := 945) (by decide +kernel)
theorem mw_X11_reach : gl_mw m_X11_reach 0 := ⟨List.mem_of_getElem? (i := 953) (by decide +kernel), List.mem_of_getElem? (i := 101) (by decide +kernel), by decide +kernel, by decide +kernel⟩
theorem iw_X11_reach : Cond.instanceMethod m_X11_reach.1 ∈ gl_tb := List.mem_of_getElem? (i := 951) (by decide +kernel)
theorem lw_X11_reach : Cond.selects m_X11_reach.1.cls m_X11_reach.1 m_X11_reach.1 ∈ gl_tb := List.mem_of_getElem? (i := 952) (by decide +kernel)
theorem mw_X11_fitOf : gl_mw m_X11_fitOf 1 := ⟨List.mem_of_getElem? (i := 960) (by decide +kernel), List.mem_of_getElem? (i := 101) (by decide +kernel), by decide +kernel, by decide +kernel⟩
theorem iw_X11_fitOf : Cond.instanceMethod m_X11_fitOf.1 ∈ gl_tb := List.mem_of_getElem? (i := 959) (by decide +kernel)
theorem lw_X11_fitOf : Cond.selects m_X11_fitOf.1.cls m_X11_fitOf.1 m_X11_fitOf.1 ∈ gl_tb := List.mem_of_getElem? (i := 86) (by decide +kernel)
theorem mw_X11_fit : gl_mw m_X11_fit 1 := ⟨List.mem_of_getElem? (i := 957) (by decide +kernel), List.mem_of_getElem? (i := 101) (by decide +kernel), by decide +kernel, by decide +kernel⟩
theorem iw_X11_fit : Cond.instanceMethod m_X11_fit.1 ∈ gl_tb := List.mem_of_getElem? (i := 955) (by decide +kernel)
theorem lw_X11_fit : Cond.selects m_X11_fit.1.cls m_X11_fit.1 m_X11_fit.1 ∈ gl_tb := List.mem_of_getElem? (i := 956) (by decide +kernel)
theorem mw_X11_home : gl_mw m_X11_home 0 := ⟨List.mem_of_getElem? (i := 964) (by decide +kernel), List.mem_of_getElem? (i := 101) (by decide +kernel), by decide +kernel, by decide +kernel⟩
theorem iw_X11_home : Cond.instanceMethod m_X11_home.1 ∈ gl_tb := List.mem_of_getElem? (i := 962) (by decide +kernel)
theorem lw_X11_home : Cond.selects m_X11_home.1.cls m_X11_home.1 m_X11_home.1 ∈ gl_tb := List.mem_of_getElem? (i := 963) (by decide +kernel)
theorem mw_X11_remembers : gl_mw m_X11_remembers 0 := ⟨List.mem_of_getElem? (i := 971) (by decide +kernel), List.mem_of_getElem? (i := 101) (by decide +kernel), by decide +kernel, by decide +kernel⟩
theorem iw_X11_remembers : Cond.instanceMethod m_X11_remembers.1 ∈ gl_tb := List.mem_of_getElem? (i := 970) (by decide +kernel)
theorem lw_X11_remembers : Cond.selects m_X11_remembers.1.cls m_X11_remembers.1 m_X11_remembers.1 ∈ gl_tb := List.mem_of_getElem? (i := 87) (by decide +kernel)
theorem mw_X11_plays : gl_mw m_X11_plays 1 := ⟨List.mem_of_getElem? (i := 968) (by decide +kernel), List.mem_of_getElem? (i := 101) (by decide +kernel), by decide +kernel, by decide +kernel⟩
theorem iw_X11_plays : Cond.instanceMethod m_X11_plays.1 ∈ gl_tb := List.mem_of_getElem? (i := 966) (by decide +kernel)
theorem lw_X11_plays : Cond.selects m_X11_plays.1.cls m_X11_plays.1 m_X11_plays.1 ∈ gl_tb := List.mem_of_getElem? (i := 967) (by decide +kernel)
theorem mw_X11_cuts : gl_mw m_X11_cuts 0 := ⟨List.mem_of_getElem? (i := 975) (by decide +kernel), List.mem_of_getElem? (i := 101) (by decide +kernel), by decide +kernel, by decide +kernel⟩
theorem iw_X11_cuts : Cond.instanceMethod m_X11_cuts.1 ∈ gl_tb := List.mem_of_getElem? (i := 973) (by decide +kernel)
theorem lw_X11_cuts : Cond.selects m_X11_cuts.1.cls m_X11_cuts.1 m_X11_cuts.1 ∈ gl_tb := List.mem_of_getElem? (i := 974) (by decide +kernel)
theorem mw_X11_mends : gl_mw m_X11_mends 2 := ⟨List.mem_of_getElem? (i := 979) (by decide +kernel), List.mem_of_getElem? (i := 101) (by decide +kernel), by decide +kernel, by decide +kernel⟩
theorem iw_X11_mends : Cond.instanceMethod m_X11_mends.1 ∈ gl_tb := List.mem_of_getElem? (i := 977) (by decide +kernel)
theorem lw_X11_mends : Cond.selects m_X11_mends.1.cls m_X11_mends.1 m_X11_mends.1 ∈ gl_tb := List.mem_of_getElem? (i := 978) (by decide +kernel)
theorem mw_X11_moves : gl_mw m_X11_moves 1 := ⟨List.mem_of_getElem? (i := 983) (by decide +kernel), List.mem_of_getElem? (i := 101) (by decide +kernel), by decide +kernel, by decide +kernel⟩
theorem iw_X11_moves : Cond.instanceMethod m_X11_moves.1 ∈ gl_tb := List.mem_of_getElem? (i := 981) (by decide +kernel)
theorem lw_X11_moves : Cond.selects m_X11_moves.1.cls m_X11_moves.1 m_X11_moves.1 ∈ gl_tb := List.mem_of_getElem? (i := 982) (by decide +kernel)
theorem mw_X11_undo : gl_mw m_X11_undo 0 := ⟨List.mem_of_getElem? (i := 987) (by decide +kernel), List.mem_of_getElem? (i := 101) (by decide +kernel), by decide +kernel, by decide +kernel⟩
theorem iw_X11_undo : Cond.instanceMethod m_X11_undo.1 ∈ gl_tb := List.mem_of_getElem? (i := 985) (by decide +kernel)
theorem lw_X11_undo : Cond.selects m_X11_undo.1.cls m_X11_undo.1 m_X11_undo.1 ∈ gl_tb := List.mem_of_getElem? (i := 986) (by decide +kernel)
theorem mw_X11_note : gl_mw m_X11_note 1 := ⟨List.mem_of_getElem? (i := 991) (by decide +kernel), List.mem_of_getElem? (i := 101) (by decide +kernel), by decide +kernel, by decide +kernel⟩
theorem iw_X11_note : Cond.instanceMethod m_X11_note.1 ∈ gl_tb := List.mem_of_getElem? (i := 989) (by decide +kernel)
theorem lw_X11_note : Cond.selects m_X11_note.1.cls m_X11_note.1 m_X11_note.1 ∈ gl_tb := List.mem_of_getElem? (i := 990) (by decide +kernel)
theorem mw_X11_sees : gl_mw m_X11_sees 2 := ⟨List.mem_of_getElem? (i := 995) (by decide +kernel), List.mem_of_getElem? (i := 101) (by decide +kernel), by decide +kernel, by decide +kernel⟩
theorem iw_X11_sees : Cond.instanceMethod m_X11_sees.1 ∈ gl_tb := List.mem_of_getElem? (i := 993) (by decide +kernel)
theorem lw_X11_sees : Cond.selects m_X11_sees.1.cls m_X11_sees.1 m_X11_sees.1 ∈ gl_tb := List.mem_of_getElem? (i := 994) (by decide +kernel)
theorem mw_X11_forget : gl_mw m_X11_forget 0 := ⟨List.mem_of_getElem? (i := 999) (by decide +kernel), List.mem_of_getElem? (i := 101) (by decide +kernel), by decide +kernel, by decide +kernel⟩
theorem iw_X11_forget : Cond.instanceMethod m_X11_forget.1 ∈ gl_tb := List.mem_of_getElem? (i := 997) (by decide +kernel)
theorem lw_X11_forget : Cond.selects m_X11_forget.1.cls m_X11_forget.1 m_X11_forget.1 ∈ gl_tb := List.mem_of_getElem? (i := 998) (by decide +kernel)
theorem mw_X11_unseen : gl_mw m_X11_unseen 0 := ⟨List.mem_of_getElem? (i := 1003) (by decide +kernel), List.mem_of_getElem? (i := 101) (by decide +kernel), by decide +kernel, by decide +kernel⟩
theorem iw_X11_unseen : Cond.instanceMethod m_X11_unseen.1 ∈ gl_tb := List.mem_of_getElem? (i := 1001) (by decide +kernel)
theorem lw_X11_unseen : Cond.selects m_X11_unseen.1.cls m_X11_unseen.1 m_X11_unseen.1 ∈ gl_tb := List.mem_of_getElem? (i := 1002) (by decide +kernel)
theorem mw_X11_keep : gl_mw m_X11_keep 1 := ⟨List.mem_of_getElem? (i := 1007) (by decide +kernel), List.mem_of_getElem? (i := 101) (by decide +kernel), by decide +kernel, by decide +kernel⟩
theorem iw_X11_keep : Cond.instanceMethod m_X11_keep.1 ∈ gl_tb := List.mem_of_getElem? (i := 1005) (by decide +kernel)
theorem lw_X11_keep : Cond.selects m_X11_keep.1.cls m_X11_keep.1 m_X11_keep.1 ∈ gl_tb := List.mem_of_getElem? (i := 1006) (by decide +kernel)
theorem mw_X11_back : gl_mw m_X11_back 1 := ⟨List.mem_of_getElem? (i := 1011) (by decide +kernel), List.mem_of_getElem? (i := 101) (by decide +kernel), by decide +kernel, by decide +kernel⟩
theorem iw_X11_back : Cond.instanceMethod m_X11_back.1 ∈ gl_tb := List.mem_of_getElem? (i := 1009) (by decide +kernel)
theorem lw_X11_back : Cond.selects m_X11_back.1.cls m_X11_back.1 m_X11_back.1 ∈ gl_tb := List.mem_of_getElem? (i := 1010) (by decide +kernel)
theorem mw_X11_count : gl_mw m_X11_count 1 := ⟨List.mem_of_getElem? (i := 1015) (by decide +kernel), List.mem_of_getElem? (i := 101) (by decide +kernel), by decide +kernel, by decide +kernel⟩
theorem iw_X11_count : Cond.instanceMethod m_X11_count.1 ∈ gl_tb := List.mem_of_getElem? (i := 1013) (by decide +kernel)
theorem lw_X11_count : Cond.selects m_X11_count.1.cls m_X11_count.1 m_X11_count.1 ∈ gl_tb := List.mem_of_getElem? (i := 1014) (by decide +kernel)
theorem mw_X0_init : gl_mw m_X0_init 0 := ⟨List.mem_of_getElem? (i := 132) (by decide +kernel), List.mem_of_getElem? (i := 91) (by decide +kernel), by decide +kernel, by decide +kernel⟩
theorem iw_X0_init : Cond.instanceMethod m_X0_init.1 ∈ gl_tb := List.mem_of_getElem? (i := 131) (by decide +kernel)
theorem mw_X0_dropAll : gl_mw m_X0_dropAll 0 := ⟨List.mem_of_getElem? (i := 410) (by decide +kernel), List.mem_of_getElem? (i := 91) (by decide +kernel), by decide +kernel, by decide +kernel⟩
theorem iw_X0_dropAll : Cond.instanceMethod m_X0_dropAll.1 ∈ gl_tb := List.mem_of_getElem? (i := 409) (by decide +kernel)
theorem lw_X0_dropAll : Cond.selects m_X0_dropAll.1.cls m_X0_dropAll.1 m_X0_dropAll.1 ∈ gl_tb := List.mem_of_getElem? (i := 2) (by decide +kernel)
theorem mw_X0_copyFrom : gl_mw m_X0_copyFrom 1 := ⟨List.mem_of_getElem? (i := 453) (by decide +kernel), List.mem_of_getElem? (i := 91) (by decide +kernel), by decide +kernel, by decide +kernel⟩
theorem iw_X0_copyFrom : Cond.instanceMethod m_X0_copyFrom.1 ∈ gl_tb := List.mem_of_getElem? (i := 452) (by decide +kernel)
theorem lw_X0_copyFrom : Cond.selects m_X0_copyFrom.1.cls m_X0_copyFrom.1 m_X0_copyFrom.1 ∈ gl_tb := List.mem_of_getElem? (i := 15) (by decide +kernel)
theorem mw_X0_copyRow : gl_mw m_X0_copyRow 2 := ⟨List.mem_of_getElem? (i := 456) (by decide +kernel), List.mem_of_getElem? (i := 91) (by decide +kernel), by decide +kernel, by decide +kernel⟩
theorem sw_X0_copyRow : Cond.static m_X0_copyRow.1 ∈ gl_tb := List.mem_of_getElem? (i := 455) (by decide +kernel)
theorem mw_X0_openCell : gl_mw m_X0_openCell 0 := ⟨List.mem_of_getElem? (i := 425) (by decide +kernel), List.mem_of_getElem? (i := 91) (by decide +kernel), by decide +kernel, by decide +kernel⟩
theorem iw_X0_openCell : Cond.instanceMethod m_X0_openCell.1 ∈ gl_tb := List.mem_of_getElem? (i := 424) (by decide +kernel)
theorem lw_X0_openCell : Cond.selects m_X0_openCell.1.cls m_X0_openCell.1 m_X0_openCell.1 ∈ gl_tb := List.mem_of_getElem? (i := 7) (by decide +kernel)
theorem mw_X0_addStep : gl_mw m_X0_addStep 1 := ⟨List.mem_of_getElem? (i := 438) (by decide +kernel), List.mem_of_getElem? (i := 91) (by decide +kernel), by decide +kernel, by decide +kernel⟩
theorem iw_X0_addStep : Cond.instanceMethod m_X0_addStep.1 ∈ gl_tb := List.mem_of_getElem? (i := 437) (by decide +kernel)
theorem lw_X0_addStep : Cond.selects m_X0_addStep.1.cls m_X0_addStep.1 m_X0_addStep.1 ∈ gl_tb := List.mem_of_getElem? (i := 10) (by decide +kernel)
theorem mw_X0_openMode : gl_mw m_X0_openMode 1 := ⟨List.mem_of_getElem? (i := 447) (by decide +kernel), List.mem_of_getElem? (i := 91) (by decide +kernel), by decide +kernel, by decide +kernel⟩
theorem iw_X0_openMode : Cond.instanceMethod m_X0_openMode.1 ∈ gl_tb := List.mem_of_getElem? (i := 446) (by decide +kernel)
theorem lw_X0_openMode : Cond.selects m_X0_openMode.1.cls m_X0_openMode.1 m_X0_openMode.1 ∈ gl_tb := List.mem_of_getElem? (i := 13) (by decide +kernel)
theorem mw_X0_addPart : gl_mw m_X0_addPart 2 := ⟨List.mem_of_getElem? (i := 450) (by decide +kernel), List.mem_of_getElem? (i := 91) (by decide +kernel), by decide +kernel, by decide +kernel⟩
theorem iw_X0_addPart : Cond.instanceMethod m_X0_addPart.1 ∈ gl_tb := List.mem_of_getElem? (i := 449) (by decide +kernel)
theorem lw_X0_addPart : Cond.selects m_X0_addPart.1.cls m_X0_addPart.1 m_X0_addPart.1 ∈ gl_tb := List.mem_of_getElem? (i := 14) (by decide +kernel)
theorem mw_X0_stepAt : gl_mw m_X0_stepAt 2 := ⟨List.mem_of_getElem? (i := 481) (by decide +kernel), List.mem_of_getElem? (i := 91) (by decide +kernel), by decide +kernel, by decide +kernel⟩
theorem iw_X0_stepAt : Cond.instanceMethod m_X0_stepAt.1 ∈ gl_tb := List.mem_of_getElem? (i := 480) (by decide +kernel)
theorem lw_X0_stepAt : Cond.selects m_X0_stepAt.1.cls m_X0_stepAt.1 m_X0_stepAt.1 ∈ gl_tb := List.mem_of_getElem? (i := 20) (by decide +kernel)
theorem mw_X0_scaleCount : gl_mw m_X0_scaleCount 0 := ⟨List.mem_of_getElem? (i := 491) (by decide +kernel), List.mem_of_getElem? (i := 91) (by decide +kernel), by decide +kernel, by decide +kernel⟩
theorem iw_X0_scaleCount : Cond.instanceMethod m_X0_scaleCount.1 ∈ gl_tb := List.mem_of_getElem? (i := 490) (by decide +kernel)
theorem lw_X0_scaleCount : Cond.selects m_X0_scaleCount.1.cls m_X0_scaleCount.1 m_X0_scaleCount.1 ∈ gl_tb := List.mem_of_getElem? (i := 22) (by decide +kernel)
theorem mw_X0_isScale : gl_mw m_X0_isScale 1 := ⟨List.mem_of_getElem? (i := 488) (by decide +kernel), List.mem_of_getElem? (i := 91) (by decide +kernel), by decide +kernel, by decide +kernel⟩
theorem iw_X0_isScale : Cond.instanceMethod m_X0_isScale.1 ∈ gl_tb := List.mem_of_getElem? (i := 487) (by decide +kernel)
theorem lw_X0_isScale : Cond.selects m_X0_isScale.1.cls m_X0_isScale.1 m_X0_isScale.1 ∈ gl_tb := List.mem_of_getElem? (i := 21) (by decide +kernel)
theorem mw_X0_partsOf : gl_mw m_X0_partsOf 1 := ⟨List.mem_of_getElem? (i := 494) (by decide +kernel), List.mem_of_getElem? (i := 91) (by decide +kernel), by decide +kernel, by decide +kernel⟩
theorem iw_X0_partsOf : Cond.instanceMethod m_X0_partsOf.1 ∈ gl_tb := List.mem_of_getElem? (i := 493) (by decide +kernel)
theorem lw_X0_partsOf : Cond.selects m_X0_partsOf.1.cls m_X0_partsOf.1 m_X0_partsOf.1 ∈ gl_tb := List.mem_of_getElem? (i := 23) (by decide +kernel)
theorem mw_X0_cellAt : gl_mw m_X0_cellAt 2 := ⟨List.mem_of_getElem? (i := 497) (by decide +kernel), List.mem_of_getElem? (i := 91) (by decide +kernel), by decide +kernel, by decide +kernel⟩
theorem iw_X0_cellAt : Cond.instanceMethod m_X0_cellAt.1 ∈ gl_tb := List.mem_of_getElem? (i := 496) (by decide +kernel)
theorem lw_X0_cellAt : Cond.selects m_X0_cellAt.1.cls m_X0_cellAt.1 m_X0_cellAt.1 ∈ gl_tb := List.mem_of_getElem? (i := 24) (by decide +kernel)
theorem mw_X0_pitchAt : gl_mw m_X0_pitchAt 2 := ⟨List.mem_of_getElem? (i := 500) (by decide +kernel), List.mem_of_getElem? (i := 91) (by decide +kernel), by decide +kernel, by decide +kernel⟩
theorem iw_X0_pitchAt : Cond.instanceMethod m_X0_pitchAt.1 ∈ gl_tb := List.mem_of_getElem? (i := 499) (by decide +kernel)
theorem lw_X0_pitchAt : Cond.selects m_X0_pitchAt.1.cls m_X0_pitchAt.1 m_X0_pitchAt.1 ∈ gl_tb := List.mem_of_getElem? (i := 25) (by decide +kernel)
theorem mw_X0_placedCell : gl_mw m_X0_placedCell 2 := ⟨List.mem_of_getElem? (i := 579) (by decide +kernel), List.mem_of_getElem? (i := 91) (by decide +kernel), by decide +kernel, by decide +kernel⟩
theorem iw_X0_placedCell : Cond.instanceMethod m_X0_placedCell.1 ∈ gl_tb := List.mem_of_getElem? (i := 578) (by decide +kernel)
theorem lw_X0_placedCell : Cond.selects m_X0_placedCell.1.cls m_X0_placedCell.1 m_X0_placedCell.1 ∈ gl_tb := List.mem_of_getElem? (i := 39) (by decide +kernel)
theorem mw_X0_isIn : gl_mw m_X0_isIn 3 := ⟨List.mem_of_getElem? (i := 567) (by decide +kernel), List.mem_of_getElem? (i := 91) (by decide +kernel), by decide +kernel, by decide +kernel⟩
theorem iw_X0_isIn : Cond.instanceMethod m_X0_isIn.1 ∈ gl_tb := List.mem_of_getElem? (i := 566) (by decide +kernel)
theorem lw_X0_isIn : Cond.selects m_X0_isIn.1.cls m_X0_isIn.1 m_X0_isIn.1 ∈ gl_tb := List.mem_of_getElem? (i := 37) (by decide +kernel)
theorem mw_X0_partsWith : gl_mw m_X0_partsWith 2 := ⟨List.mem_of_getElem? (i := 563) (by decide +kernel), List.mem_of_getElem? (i := 91) (by decide +kernel), by decide +kernel, by decide +kernel⟩
theorem iw_X0_partsWith : Cond.instanceMethod m_X0_partsWith.1 ∈ gl_tb := List.mem_of_getElem? (i := 562) (by decide +kernel)
theorem lw_X0_partsWith : Cond.selects m_X0_partsWith.1.cls m_X0_partsWith.1 m_X0_partsWith.1 ∈ gl_tb := List.mem_of_getElem? (i := 36) (by decide +kernel)
theorem mw_X0_samePart : gl_mw m_X0_samePart 3 := ⟨List.mem_of_getElem? (i := 576) (by decide +kernel), List.mem_of_getElem? (i := 91) (by decide +kernel), by decide +kernel, by decide +kernel⟩
theorem iw_X0_samePart : Cond.instanceMethod m_X0_samePart.1 ∈ gl_tb := List.mem_of_getElem? (i := 575) (by decide +kernel)
theorem lw_X0_samePart : Cond.selects m_X0_samePart.1.cls m_X0_samePart.1 m_X0_samePart.1 ∈ gl_tb := List.mem_of_getElem? (i := 38) (by decide +kernel)
theorem mw_X1_init : gl_mw m_X1_init 2 := ⟨List.mem_of_getElem? (i := 295) (by decide +kernel), List.mem_of_getElem? (i := 99) (by decide +kernel), by decide +kernel, by decide +kernel⟩
theorem iw_X1_init : Cond.instanceMethod m_X1_init.1 ∈ gl_tb := List.mem_of_getElem? (i := 294) (by decide +kernel)
theorem mw_X1_refresh : gl_mw m_X1_refresh 0 := ⟨List.mem_of_getElem? (i := 622) (by decide +kernel), List.mem_of_getElem? (i := 99) (by decide +kernel), by decide +kernel, by decide +kernel⟩
theorem iw_X1_refresh : Cond.instanceMethod m_X1_refresh.1 ∈ gl_tb := List.mem_of_getElem? (i := 621) (by decide +kernel)
theorem lw_X1_refresh : Cond.selects m_X1_refresh.1.cls m_X1_refresh.1 m_X1_refresh.1 ∈ gl_tb := List.mem_of_getElem? (i := 47) (by decide +kernel)
theorem mw_X1_restAt : gl_mw m_X1_restAt 2 := ⟨List.mem_of_getElem? (i := 636) (by decide +kernel), List.mem_of_getElem? (i := 99) (by decide +kernel), by decide +kernel, by decide +kernel⟩
theorem iw_X1_restAt : Cond.instanceMethod m_X1_restAt.1 ∈ gl_tb := List.mem_of_getElem? (i := 635) (by decide +kernel)
theorem lw_X1_restAt : Cond.selects m_X1_restAt.1.cls m_X1_restAt.1 m_X1_restAt.1 ∈ gl_tb := List.mem_of_getElem? (i := 49) (by decide +kernel)
theorem mw_X1_measureEntries : gl_mw m_X1_measureEntries 1 := ⟨List.mem_of_getElem? (i := 625) (by decide +kernel), List.mem_of_getElem? (i := 99) (by decide +kernel), by decide +kernel, by decide +kernel⟩
theorem iw_X1_measureEntries : Cond.instanceMethod m_X1_measureEntries.1 ∈ gl_tb := List.mem_of_getElem? (i := 624) (by decide +kernel)
theorem lw_X1_measureEntries : Cond.selects m_X1_measureEntries.1.cls m_X1_measureEntries.1 m_X1_measureEntries.1 ∈ gl_tb := List.mem_of_getElem? (i := 48) (by decide +kernel)
theorem mw_X1_measureRests : gl_mw m_X1_measureRests 1 := ⟨List.mem_of_getElem? (i := 640) (by decide +kernel), List.mem_of_getElem? (i := 99) (by decide +kernel), by decide +kernel, by decide +kernel⟩
theorem iw_X1_measureRests : Cond.instanceMethod m_X1_measureRests.1 ∈ gl_tb := List.mem_of_getElem? (i := 639) (by decide +kernel)
theorem lw_X1_measureRests : Cond.selects m_X1_measureRests.1.cls m_X1_measureRests.1 m_X1_measureRests.1 ∈ gl_tb := List.mem_of_getElem? (i := 50) (by decide +kernel)
theorem mw_X1_leastRest : gl_mw m_X1_leastRest 3 := ⟨List.mem_of_getElem? (i := 644) (by decide +kernel), List.mem_of_getElem? (i := 99) (by decide +kernel), by decide +kernel, by decide +kernel⟩
theorem iw_X1_leastRest : Cond.instanceMethod m_X1_leastRest.1 ∈ gl_tb := List.mem_of_getElem? (i := 643) (by decide +kernel)
theorem lw_X1_leastRest : Cond.selects m_X1_leastRest.1.cls m_X1_leastRest.1 m_X1_leastRest.1 ∈ gl_tb := List.mem_of_getElem? (i := 51) (by decide +kernel)
theorem mw_X1_choose : gl_mw m_X1_choose 0 := ⟨List.mem_of_getElem? (i := 647) (by decide +kernel), List.mem_of_getElem? (i := 99) (by decide +kernel), by decide +kernel, by decide +kernel⟩
theorem iw_X1_choose : Cond.instanceMethod m_X1_choose.1 ∈ gl_tb := List.mem_of_getElem? (i := 646) (by decide +kernel)
theorem lw_X1_choose : Cond.selects m_X1_choose.1.cls m_X1_choose.1 m_X1_choose.1 ∈ gl_tb := List.mem_of_getElem? (i := 52) (by decide +kernel)
theorem mw_X1_firstSpot : gl_mw m_X1_firstSpot 0 := ⟨List.mem_of_getElem? (i := 650) (by decide +kernel), List.mem_of_getElem? (i := 99) (by decide +kernel), by decide +kernel, by decide +kernel⟩
theorem iw_X1_firstSpot : Cond.instanceMethod m_X1_firstSpot.1 ∈ gl_tb := List.mem_of_getElem? (i := 649) (by decide +kernel)
theorem lw_X1_firstSpot : Cond.selects m_X1_firstSpot.1.cls m_X1_firstSpot.1 m_X1_firstSpot.1 ∈ gl_tb := List.mem_of_getElem? (i := 53) (by decide +kernel)
theorem mw_X1_nextSpot : gl_mw m_X1_nextSpot 2 := ⟨List.mem_of_getElem? (i := 653) (by decide +kernel), List.mem_of_getElem? (i := 99) (by decide +kernel), by decide +kernel, by decide +kernel⟩
theorem iw_X1_nextSpot : Cond.instanceMethod m_X1_nextSpot.1 ∈ gl_tb := List.mem_of_getElem? (i := 652) (by decide +kernel)
theorem lw_X1_nextSpot : Cond.selects m_X1_nextSpot.1.cls m_X1_nextSpot.1 m_X1_nextSpot.1 ∈ gl_tb := List.mem_of_getElem? (i := 54) (by decide +kernel)
theorem mw_X1_changeCost : gl_mw m_X1_changeCost 2 := ⟨List.mem_of_getElem? (i := 656) (by decide +kernel), List.mem_of_getElem? (i := 99) (by decide +kernel), by decide +kernel, by decide +kernel⟩
theorem iw_X1_changeCost : Cond.instanceMethod m_X1_changeCost.1 ∈ gl_tb := List.mem_of_getElem? (i := 655) (by decide +kernel)
theorem lw_X1_changeCost : Cond.selects m_X1_changeCost.1.cls m_X1_changeCost.1 m_X1_changeCost.1 ∈ gl_tb := List.mem_of_getElem? (i := 55) (by decide +kernel)
theorem mw_X1_countChange : gl_mw m_X1_countChange 1 := ⟨List.mem_of_getElem? (i := 666) (by decide +kernel), List.mem_of_getElem? (i := 99) (by decide +kernel), by decide +kernel, by decide +kernel⟩
theorem iw_X1_countChange : Cond.instanceMethod m_X1_countChange.1 ∈ gl_tb := List.mem_of_getElem? (i := 665) (by decide +kernel)
theorem lw_X1_countChange : Cond.selects m_X1_countChange.1.cls m_X1_countChange.1 m_X1_countChange.1 ∈ gl_tb := List.mem_of_getElem? (i := 56) (by decide +kernel)
theorem mw_X2_init : gl_mw m_X2_init 0 := ⟨List.mem_of_getElem? (i := 220) (by decide +kernel), List.mem_of_getElem? (i := 94) (by decide +kernel), by decide +kernel, by decide +kernel⟩
theorem iw_X2_init : Cond.instanceMethod m_X2_init.1 ∈ gl_tb := List.mem_of_getElem? (i := 219) (by decide +kernel)
theorem mw_X2_dropAll : gl_mw m_X2_dropAll 0 := ⟨List.mem_of_getElem? (i := 471) (by decide +kernel), List.mem_of_getElem? (i := 94) (by decide +kernel), by decide +kernel, by decide +kernel⟩
theorem iw_X2_dropAll : Cond.instanceMethod m_X2_dropAll.1 ∈ gl_tb := List.mem_of_getElem? (i := 470) (by decide +kernel)
theorem lw_X2_dropAll : Cond.selects m_X2_dropAll.1.cls m_X2_dropAll.1 m_X2_dropAll.1 ∈ gl_tb := List.mem_of_getElem? (i := 18) (by decide +kernel)
theorem mw_X2_remember : gl_mw m_X2_remember 1 := ⟨List.mem_of_getElem? (i := 507) (by decide +kernel), List.mem_of_getElem? (i := 94) (by decide +kernel), by decide +kernel, by decide +kernel⟩
theorem iw_X2_remember : Cond.instanceMethod m_X2_remember.1 ∈ gl_tb := List.mem_of_getElem? (i := 506) (by decide +kernel)
theorem lw_X2_remember : Cond.selects m_X2_remember.1.cls m_X2_remember.1 m_X2_remember.1 ∈ gl_tb := List.mem_of_getElem? (i := 26) (by decide +kernel)
theorem mw_X2_restore : gl_mw m_X2_restore 1 := ⟨List.mem_of_getElem? (i := 549) (by decide +kernel), List.mem_of_getElem? (i := 94) (by decide +kernel), by decide +kernel, by decide +kernel⟩
theorem iw_X2_restore : Cond.instanceMethod m_X2_restore.1 ∈ gl_tb := List.mem_of_getElem? (i := 548) (by decide +kernel)
theorem lw_X2_restore : Cond.selects m_X2_restore.1.cls m_X2_restore.1 m_X2_restore.1 ∈ gl_tb := List.mem_of_getElem? (i := 34) (by decide +kernel)
theorem mw_X3_init : gl_mw m_X3_init 2 := ⟨List.mem_of_getElem? (i := 301) (by decide +kernel), List.mem_of_getElem? (i := 100) (by decide +kernel), by decide +kernel, by decide +kernel⟩
theorem iw_X3_init : Cond.instanceMethod m_X3_init.1 ∈ gl_tb := List.mem_of_getElem? (i := 300) (by decide +kernel)
theorem mw_X3_longest : gl_mw m_X3_longest 0 := ⟨List.mem_of_getElem? (i := 669) (by decide +kernel), List.mem_of_getElem? (i := 100) (by decide +kernel), by decide +kernel, by decide +kernel⟩
theorem iw_X3_longest : Cond.instanceMethod m_X3_longest.1 ∈ gl_tb := List.mem_of_getElem? (i := 668) (by decide +kernel)
theorem lw_X3_longest : Cond.selects m_X3_longest.1.cls m_X3_longest.1 m_X3_longest.1 ∈ gl_tb := List.mem_of_getElem? (i := 57) (by decide +kernel)
theorem mw_X3_findLive : gl_mw m_X3_findLive 1 := ⟨List.mem_of_getElem? (i := 673) (by decide +kernel), List.mem_of_getElem? (i := 100) (by decide +kernel), by decide +kernel, by decide +kernel⟩
theorem iw_X3_findLive : Cond.instanceMethod m_X3_findLive.1 ∈ gl_tb := List.mem_of_getElem? (i := 672) (by decide +kernel)
theorem lw_X3_findLive : Cond.selects m_X3_findLive.1.cls m_X3_findLive.1 m_X3_findLive.1 ∈ gl_tb := List.mem_of_getElem? (i := 58) (by decide +kernel)
theorem mw_X3_markFromLive : gl_mw m_X3_markFromLive 1 := ⟨List.mem_of_getElem? (i := 680) (by decide +kernel), List.mem_of_getElem? (i := 100) (by decide +kernel), by decide +kernel, by decide +kernel⟩
theorem iw_X3_markFromLive : Cond.instanceMethod m_X3_markFromLive.1 ∈ gl_tb := List.mem_of_getElem? (i := 679) (by decide +kernel)
theorem lw_X3_markFromLive : Cond.selects m_X3_markFromLive.1.cls m_X3_markFromLive.1 m_X3_markFromLive.1 ∈ gl_tb := List.mem_of_getElem? (i := 59) (by decide +kernel)
theorem mw_X4_init : gl_mw m_X4_init 2 := ⟨List.mem_of_getElem? (i := 175) (by decide +kernel), List.mem_of_getElem? (i := 92) (by decide +kernel), by decide +kernel, by decide +kernel⟩
theorem iw_X4_init : Cond.instanceMethod m_X4_init.1 ∈ gl_tb := List.mem_of_getElem? (i := 174) (by decide +kernel)
theorem mw_X4_read : gl_mw m_X4_read 0 := ⟨List.mem_of_getElem? (i := 407) (by decide +kernel), List.mem_of_getElem? (i := 92) (by decide +kernel), by decide +kernel, by decide +kernel⟩
theorem iw_X4_read : Cond.instanceMethod m_X4_read.1 ∈ gl_tb := List.mem_of_getElem? (i := 406) (by decide +kernel)
theorem lw_X4_read : Cond.selects m_X4_read.1.cls m_X4_read.1 m_X4_read.1 ∈ gl_tb := List.mem_of_getElem? (i := 1) (by decide +kernel)
theorem mw_X4_readItem : gl_mw m_X4_readItem 0 := ⟨List.mem_of_getElem? (i := 419) (by decide +kernel), List.mem_of_getElem? (i := 92) (by decide +kernel), by decide +kernel, by decide +kernel⟩
theorem iw_X4_readItem : Cond.instanceMethod m_X4_readItem.1 ∈ gl_tb := List.mem_of_getElem? (i := 418) (by decide +kernel)
theorem lw_X4_readItem : Cond.selects m_X4_readItem.1.cls m_X4_readItem.1 m_X4_readItem.1 ∈ gl_tb := List.mem_of_getElem? (i := 5) (by decide +kernel)
theorem mw_X4_readCell : gl_mw m_X4_readCell 0 := ⟨List.mem_of_getElem? (i := 422) (by decide +kernel), List.mem_of_getElem? (i := 92) (by decide +kernel), by decide +kernel, by decide +kernel⟩
theorem iw_X4_readCell : Cond.instanceMethod m_X4_readCell.1 ∈ gl_tb := List.mem_of_getElem? (i := 421) (by decide +kernel)
theorem lw_X4_readCell : Cond.selects m_X4_readCell.1.cls m_X4_readCell.1 m_X4_readCell.1 ∈ gl_tb := List.mem_of_getElem? (i := 6) (by decide +kernel)
theorem mw_X4_readMode : gl_mw m_X4_readMode 0 := ⟨List.mem_of_getElem? (i := 444) (by decide +kernel), List.mem_of_getElem? (i := 92) (by decide +kernel), by decide +kernel, by decide +kernel⟩
theorem iw_X4_readMode : Cond.instanceMethod m_X4_readMode.1 ∈ gl_tb := List.mem_of_getElem? (i := 443) (by decide +kernel)
theorem lw_X4_readMode : Cond.selects m_X4_readMode.1.cls m_X4_readMode.1 m_X4_readMode.1 ∈ gl_tb := List.mem_of_getElem? (i := 12) (by decide +kernel)
theorem mw_X4_readEnd : gl_mw m_X4_readEnd 0 := ⟨List.mem_of_getElem? (i := 441) (by decide +kernel), List.mem_of_getElem? (i := 92) (by decide +kernel), by decide +kernel, by decide +kernel⟩
theorem iw_X4_readEnd : Cond.instanceMethod m_X4_readEnd.1 ∈ gl_tb := List.mem_of_getElem? (i := 440) (by decide +kernel)
theorem lw_X4_readEnd : Cond.selects m_X4_readEnd.1.cls m_X4_readEnd.1 m_X4_readEnd.1 ∈ gl_tb := List.mem_of_getElem? (i := 11) (by decide +kernel)
theorem mw_X4_atEnd : gl_mw m_X4_atEnd 0 := ⟨List.mem_of_getElem? (i := 428) (by decide +kernel), List.mem_of_getElem? (i := 92) (by decide +kernel), by decide +kernel, by decide +kernel⟩
theorem iw_X4_atEnd : Cond.instanceMethod m_X4_atEnd.1 ∈ gl_tb := List.mem_of_getElem? (i := 427) (by decide +kernel)
theorem lw_X4_atEnd : Cond.selects m_X4_atEnd.1.cls m_X4_atEnd.1 m_X4_atEnd.1 ∈ gl_tb := List.mem_of_getElem? (i := 8) (by decide +kernel)
theorem mw_X4_readNumber : gl_mw m_X4_readNumber 2 := ⟨List.mem_of_getElem? (i := 431) (by decide +kernel), List.mem_of_getElem? (i := 92) (by decide +kernel), by decide +kernel, by decide +kernel⟩
theorem iw_X4_readNumber : Cond.instanceMethod m_X4_readNumber.1 ∈ gl_tb := List.mem_of_getElem? (i := 430) (by decide +kernel)
theorem lw_X4_readNumber : Cond.selects m_X4_readNumber.1.cls m_X4_readNumber.1 m_X4_readNumber.1 ∈ gl_tb := List.mem_of_getElem? (i := 9) (by decide +kernel)
theorem mw_X4_isFigure : gl_mw m_X4_isFigure 1 := ⟨List.mem_of_getElem? (i := 434) (by decide +kernel), List.mem_of_getElem? (i := 92) (by decide +kernel), by decide +kernel, by decide +kernel⟩
theorem sw_X4_isFigure : Cond.static m_X4_isFigure.1 ∈ gl_tb := List.mem_of_getElem? (i := 433) (by decide +kernel)
theorem mw_X4_skipBlanks : gl_mw m_X4_skipBlanks 0 := ⟨List.mem_of_getElem? (i := 413) (by decide +kernel), List.mem_of_getElem? (i := 92) (by decide +kernel), by decide +kernel, by decide +kernel⟩
theorem iw_X4_skipBlanks : Cond.instanceMethod m_X4_skipBlanks.1 ∈ gl_tb := List.mem_of_getElem? (i := 412) (by decide +kernel)
theorem lw_X4_skipBlanks : Cond.selects m_X4_skipBlanks.1.cls m_X4_skipBlanks.1 m_X4_skipBlanks.1 ∈ gl_tb := List.mem_of_getElem? (i := 3) (by decide +kernel)
theorem mw_X5_init : gl_mw m_X5_init 0 := ⟨List.mem_of_getElem? (i := 255) (by decide +kernel), List.mem_of_getElem? (i := 97) (by decide +kernel), by decide +kernel, by decide +kernel⟩
theorem iw_X5_init : Cond.instanceMethod m_X5_init.1 ∈ gl_tb := List.mem_of_getElem? (i := 254) (by decide +kernel)
theorem mw_X5_add : gl_mw m_X5_add 2 := ⟨List.mem_of_getElem? (i := 709) (by decide +kernel), List.mem_of_getElem? (i := 97) (by decide +kernel), by decide +kernel, by decide +kernel⟩
theorem iw_X5_add : Cond.instanceMethod m_X5_add.1 ∈ gl_tb := List.mem_of_getElem? (i := 708) (by decide +kernel)
theorem lw_X5_add : Cond.selects m_X5_add.1.cls m_X5_add.1 m_X5_add.1 ∈ gl_tb := List.mem_of_getElem? (i := 61) (by decide +kernel)
theorem mw_X5_agreesWith : gl_mw m_X5_agreesWith 2 := ⟨List.mem_of_getElem? (i := 720) (by decide +kernel), List.mem_of_getElem? (i := 97) (by decide +kernel), by decide +kernel, by decide +kernel⟩
theorem iw_X5_agreesWith : Cond.instanceMethod m_X5_agreesWith.1 ∈ gl_tb := List.mem_of_getElem? (i := 719) (by decide +kernel)
theorem lw_X5_agreesWith : Cond.selects m_X5_agreesWith.1.cls m_X5_agreesWith.1 m_X5_agreesWith.1 ∈ gl_tb := List.mem_of_getElem? (i := 62) (by decide +kernel)
theorem mw_X6_init : gl_mw m_X6_init 1 := ⟨List.mem_of_getElem? (i := 226) (by decide +kernel), List.mem_of_getElem? (i := 95) (by decide +kernel), by decide +kernel, by decide +kernel⟩
theorem iw_X6_init : Cond.instanceMethod m_X6_init.1 ∈ gl_tb := List.mem_of_getElem? (i := 225) (by decide +kernel)
theorem mw_X6_dropAll : gl_mw m_X6_dropAll 0 := ⟨List.mem_of_getElem? (i := 474) (by decide +kernel), List.mem_of_getElem? (i := 95) (by decide +kernel), by decide +kernel, by decide +kernel⟩
theorem iw_X6_dropAll : Cond.instanceMethod m_X6_dropAll.1 ∈ gl_tb := List.mem_of_getElem? (i := 473) (by decide +kernel)
theorem lw_X6_dropAll : Cond.selects m_X6_dropAll.1.cls m_X6_dropAll.1 m_X6_dropAll.1 ∈ gl_tb := List.mem_of_getElem? (i := 19) (by decide +kernel)
theorem mw_X6_isKept : gl_mw m_X6_isKept 1 := ⟨List.mem_of_getElem? (i := 733) (by decide +kernel), List.mem_of_getElem? (i := 95) (by decide +kernel), by decide +kernel, by decide +kernel⟩
theorem iw_X6_isKept : Cond.instanceMethod m_X6_isKept.1 ∈ gl_tb := List.mem_of_getElem? (i := 732) (by decide +kernel)
theorem lw_X6_isKept : Cond.selects m_X6_isKept.1.cls m_X6_isKept.1 m_X6_isKept.1 ∈ gl_tb := List.mem_of_getElem? (i := 63) (by decide +kernel)
theorem mw_X6_put : gl_mw m_X6_put 2 := ⟨List.mem_of_getElem? (i := 510) (by decide +kernel), List.mem_of_getElem? (i := 95) (by decide +kernel), by decide +kernel, by decide +kernel⟩
theorem iw_X6_put : Cond.instanceMethod m_X6_put.1 ∈ gl_tb := List.mem_of_getElem? (i := 509) (by decide +kernel)
theorem lw_X6_put : Cond.selects m_X6_put.1.cls m_X6_put.1 m_X6_put.1 ∈ gl_tb := List.mem_of_getElem? (i := 27) (by decide +kernel)
theorem mw_X6_giveTo : gl_mw m_X6_giveTo 2 := ⟨List.mem_of_getElem? (i := 552) (by decide +kernel), List.mem_of_getElem? (i := 95) (by decide +kernel), by decide +kernel, by decide +kernel⟩
theorem iw_X6_giveTo : Cond.instanceMethod m_X6_giveTo.1 ∈ gl_tb := List.mem_of_getElem? (i := 551) (by decide +kernel)
theorem lw_X6_giveTo : Cond.selects m_X6_giveTo.1.cls m_X6_giveTo.1 m_X6_giveTo.1 ∈ gl_tb := List.mem_of_getElem? (i := 35) (by decide +kernel)
theorem mw_X7_init : gl_mw m_X7_init 0 := ⟨List.mem_of_getElem? (i := 116) (by decide +kernel), List.mem_of_getElem? (i := 90) (by decide +kernel), by decide +kernel, by decide +kernel⟩
theorem iw_X7_init : Cond.instanceMethod m_X7_init.1 ∈ gl_tb := List.mem_of_getElem? (i := 115) (by decide +kernel)
theorem mw_X7_add : gl_mw m_X7_add 1 := ⟨List.mem_of_getElem? (i := 396) (by decide +kernel), List.mem_of_getElem? (i := 90) (by decide +kernel), by decide +kernel, by decide +kernel⟩
theorem iw_X7_add : Cond.instanceMethod m_X7_add.1 ∈ gl_tb := List.mem_of_getElem? (i := 395) (by decide +kernel)
theorem lw_X7_add : Cond.selects m_X7_add.1.cls m_X7_add.1 m_X7_add.1 ∈ gl_tb := List.mem_of_getElem? (i := 0) (by decide +kernel)
theorem mw_X7_letterAt : gl_mw m_X7_letterAt 1 := ⟨List.mem_of_getElem? (i := 416) (by decide +kernel), List.mem_of_getElem? (i := 90) (by decide +kernel), by decide +kernel, by decide +kernel⟩
theorem iw_X7_letterAt : Cond.instanceMethod m_X7_letterAt.1 ∈ gl_tb := List.mem_of_getElem? (i := 415) (by decide +kernel)
theorem lw_X7_letterAt : Cond.selects m_X7_letterAt.1.cls m_X7_letterAt.1 m_X7_letterAt.1 ∈ gl_tb := List.mem_of_getElem? (i := 4) (by decide +kernel)
theorem mw_X8_init : gl_mw m_X8_init 0 := ⟨List.mem_of_getElem? (i := 194) (by decide +kernel), List.mem_of_getElem? (i := 93) (by decide +kernel), by decide +kernel, by decide +kernel⟩
theorem iw_X8_init : Cond.instanceMethod m_X8_init.1 ∈ gl_tb := List.mem_of_getElem? (i := 193) (by decide +kernel)
theorem mw_X8_isPlace : gl_mw m_X8_isPlace 1 := ⟨List.mem_of_getElem? (i := 528) (by decide +kernel), List.mem_of_getElem? (i := 93) (by decide +kernel), by decide +kernel, by decide +kernel⟩
theorem iw_X8_isPlace : Cond.instanceMethod m_X8_isPlace.1 ∈ gl_tb := List.mem_of_getElem? (i := 527) (by decide +kernel)
theorem lw_X8_isPlace : Cond.selects m_X8_isPlace.1.cls m_X8_isPlace.1 m_X8_isPlace.1 ∈ gl_tb := List.mem_of_getElem? (i := 30) (by decide +kernel)
theorem mw_X8_dropNotes : gl_mw m_X8_dropNotes 0 := ⟨List.mem_of_getElem? (i := 468) (by decide +kernel), List.mem_of_getElem? (i := 93) (by decide +kernel), by decide +kernel, by decide +kernel⟩
theorem iw_X8_dropNotes : Cond.instanceMethod m_X8_dropNotes.1 ∈ gl_tb := List.mem_of_getElem? (i := 467) (by decide +kernel)
theorem lw_X8_dropNotes : Cond.selects m_X8_dropNotes.1.cls m_X8_dropNotes.1 m_X8_dropNotes.1 ∈ gl_tb := List.mem_of_getElem? (i := 17) (by decide +kernel)
theorem mw_X8_append : gl_mw m_X8_append 1 := ⟨List.mem_of_getElem? (i := 514) (by decide +kernel), List.mem_of_getElem? (i := 93) (by decide +kernel), by decide +kernel, by decide +kernel⟩
theorem iw_X8_append : Cond.instanceMethod m_X8_append.1 ∈ gl_tb := List.mem_of_getElem? (i := 513) (by decide +kernel)
theorem lw_X8_append : Cond.selects m_X8_append.1.cls m_X8_append.1 m_X8_append.1 ∈ gl_tb := List.mem_of_getElem? (i := 28) (by decide +kernel)
theorem mw_X8_removeLast : gl_mw m_X8_removeLast 0 := ⟨List.mem_of_getElem? (i := 521) (by decide +kernel), List.mem_of_getElem? (i := 93) (by decide +kernel), by decide +kernel, by decide +kernel⟩
theorem iw_X8_removeLast : Cond.instanceMethod m_X8_removeLast.1 ∈ gl_tb := List.mem_of_getElem? (i := 520) (by decide +kernel)
theorem lw_X8_removeLast : Cond.selects m_X8_removeLast.1.cls m_X8_removeLast.1 m_X8_removeLast.1 ∈ gl_tb := List.mem_of_getElem? (i := 29) (by decide +kernel)
theorem mw_X8_replace : gl_mw m_X8_replace 2 := ⟨List.mem_of_getElem? (i := 531) (by decide +kernel), List.mem_of_getElem? (i := 93) (by decide +kernel), by decide +kernel, by decide +kernel⟩
theorem iw_X8_replace : Cond.instanceMethod m_X8_replace.1 ∈ gl_tb := List.mem_of_getElem? (i := 530) (by decide +kernel)
theorem lw_X8_replace : Cond.selects m_X8_replace.1.cls m_X8_replace.1 m_X8_replace.1 ∈ gl_tb := List.mem_of_getElem? (i := 31) (by decide +kernel)
theorem mw_X8_canShift : gl_mw m_X8_canShift 1 := ⟨List.mem_of_getElem? (i := 538) (by decide +kernel), List.mem_of_getElem? (i := 93) (by decide +kernel), by decide +kernel, by decide +kernel⟩
theorem iw_X8_canShift : Cond.instanceMethod m_X8_canShift.1 ∈ gl_tb := List.mem_of_getElem? (i := 537) (by decide +kernel)
theorem lw_X8_canShift : Cond.selects m_X8_canShift.1.cls m_X8_canShift.1 m_X8_canShift.1 ∈ gl_tb := List.mem_of_getElem? (i := 32) (by decide +kernel)
theorem mw_X8_shift : gl_mw m_X8_shift 1 := ⟨List.mem_of_getElem? (i := 542) (by decide +kernel), List.mem_of_getElem? (i := 93) (by decide +kernel), by decide +kernel, by decide +kernel⟩
theorem iw_X8_shift : Cond.instanceMethod m_X8_shift.1 ∈ gl_tb := List.mem_of_getElem? (i := 541) (by decide +kernel)
theorem lw_X8_shift : Cond.selects m_X8_shift.1.cls m_X8_shift.1 m_X8_shift.1 ∈ gl_tb := List.mem_of_getElem? (i := 33) (by decide +kernel)
theorem mw_X9_init : gl_mw m_X9_init 1 := ⟨List.mem_of_getElem? (i := 272) (by decide +kernel), List.mem_of_getElem? (i := 98) (by decide +kernel), by decide +kernel, by decide +kernel⟩
theorem iw_X9_init : Cond.instanceMethod m_X9_init.1 ∈ gl_tb := List.mem_of_getElem? (i := 271) (by decide +kernel)
theorem mw_X9_dropMeasures : gl_mw m_X9_dropMeasures 0 := ⟨List.mem_of_getElem? (i := 465) (by decide +kernel), List.mem_of_getElem? (i := 98) (by decide +kernel), by decide +kernel, by decide +kernel⟩
theorem iw_X9_dropMeasures : Cond.instanceMethod m_X9_dropMeasures.1 ∈ gl_tb := List.mem_of_getElem? (i := 464) (by decide +kernel)
theorem lw_X9_dropMeasures : Cond.selects m_X9_dropMeasures.1.cls m_X9_dropMeasures.1 m_X9_dropMeasures.1 ∈ gl_tb := List.mem_of_getElem? (i := 16) (by decide +kernel)
theorem mw_X9_measureFrom : gl_mw m_X9_measureFrom 1 := ⟨List.mem_of_getElem? (i := 586) (by decide +kernel), List.mem_of_getElem? (i := 98) (by decide +kernel), by decide +kernel, by decide +kernel⟩
theorem iw_X9_measureFrom : Cond.instanceMethod m_X9_measureFrom.1 ∈ gl_tb := List.mem_of_getElem? (i := 585) (by decide +kernel)
theorem lw_X9_measureFrom : Cond.selects m_X9_measureFrom.1.cls m_X9_measureFrom.1 m_X9_measureFrom.1 ∈ gl_tb := List.mem_of_getElem? (i := 40) (by decide +kernel)
theorem mw_X9_enqueueSharers : gl_mw m_X9_enqueueSharers 2 := ⟨List.mem_of_getElem? (i := 594) (by decide +kernel), List.mem_of_getElem? (i := 98) (by decide +kernel), by decide +kernel, by decide +kernel⟩
theorem iw_X9_enqueueSharers : Cond.instanceMethod m_X9_enqueueSharers.1 ∈ gl_tb := List.mem_of_getElem? (i := 593) (by decide +kernel)
theorem lw_X9_enqueueSharers : Cond.selects m_X9_enqueueSharers.1.cls m_X9_enqueueSharers.1 m_X9_enqueueSharers.1 ∈ gl_tb := List.mem_of_getElem? (i := 42) (by decide +kernel)
theorem mw_X9_enqueue : gl_mw m_X9_enqueue 2 := ⟨List.mem_of_getElem? (i := 590) (by decide +kernel), List.mem_of_getElem? (i := 98) (by decide +kernel), by decide +kernel, by decide +kernel⟩
theorem iw_X9_enqueue : Cond.instanceMethod m_X9_enqueue.1 ∈ gl_tb := List.mem_of_getElem? (i := 589) (by decide +kernel)
theorem lw_X9_enqueue : Cond.selects m_X9_enqueue.1.cls m_X9_enqueue.1 m_X9_enqueue.1 ∈ gl_tb := List.mem_of_getElem? (i := 41) (by decide +kernel)
theorem mw_X9_walk : gl_mw m_X9_walk 2 := ⟨List.mem_of_getElem? (i := 600) (by decide +kernel), List.mem_of_getElem? (i := 98) (by decide +kernel), by decide +kernel, by decide +kernel⟩
theorem iw_X9_walk : Cond.instanceMethod m_X9_walk.1 ∈ gl_tb := List.mem_of_getElem? (i := 599) (by decide +kernel)
theorem lw_X9_walk : Cond.selects m_X9_walk.1.cls m_X9_walk.1 m_X9_walk.1 ∈ gl_tb := List.mem_of_getElem? (i := 43) (by decide +kernel)
theorem mw_X9_lowestNearer : gl_mw m_X9_lowestNearer 1 := ⟨List.mem_of_getElem? (i := 603) (by decide +kernel), List.mem_of_getElem? (i := 98) (by decide +kernel), by decide +kernel, by decide +kernel⟩
theorem iw_X9_lowestNearer : Cond.instanceMethod m_X9_lowestNearer.1 ∈ gl_tb := List.mem_of_getElem? (i := 602) (by decide +kernel)
theorem lw_X9_lowestNearer : Cond.selects m_X9_lowestNearer.1.cls m_X9_lowestNearer.1 m_X9_lowestNearer.1 ∈ gl_tb := List.mem_of_getElem? (i := 44) (by decide +kernel)
theorem mw_X9_sharesSome : gl_mw m_X9_sharesSome 2 := ⟨List.mem_of_getElem? (i := 607) (by decide +kernel), List.mem_of_getElem? (i := 98) (by decide +kernel), by decide +kernel, by decide +kernel⟩
theorem iw_X9_sharesSome : Cond.instanceMethod m_X9_sharesSome.1 ∈ gl_tb := List.mem_of_getElem? (i := 606) (by decide +kernel)
theorem lw_X9_sharesSome : Cond.selects m_X9_sharesSome.1.cls m_X9_sharesSome.1 m_X9_sharesSome.1 ∈ gl_tb := List.mem_of_getElem? (i := 45) (by decide +kernel)
theorem mw_X9_mostDistant : gl_mw m_X9_mostDistant 0 := ⟨List.mem_of_getElem? (i := 615) (by decide +kernel), List.mem_of_getElem? (i := 98) (by decide +kernel), by decide +kernel, by decide +kernel⟩
theorem iw_X9_mostDistant : Cond.instanceMethod m_X9_mostDistant.1 ∈ gl_tb := List.mem_of_getElem? (i := 614) (by decide +kernel)
theorem lw_X9_mostDistant : Cond.selects m_X9_mostDistant.1.cls m_X9_mostDistant.1 m_X9_mostDistant.1 ∈ gl_tb := List.mem_of_getElem? (i := 46) (by decide +kernel)
theorem mw_J_fill : gl_mw m_J_fill 2 := ⟨List.mem_of_getElem? (i := 230) (by decide +kernel), List.mem_of_getElem? (i := 96) (by decide +kernel), by decide +kernel, by decide +kernel⟩
theorem sw_J_fill : Cond.static m_J_fill.1 ∈ gl_tb := List.mem_of_getElem? (i := 229) (by decide +kernel)
