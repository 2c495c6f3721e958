set_option maxHeartbeats 400000 in
set_option maxRecDepth 20000 in
theorem w_L_law_18 (l : Launch) (sc : Nat × (Nat → Int32)) (M : gl_N) (Q : Option Value → gl_N → Prop) (x3 : Int32)
  (h : (((Int32.ofNat sc.1) - 4) < x3 → Q (some (.int 1)) M) ∧ (¬ ((Int32.ofNat sc.1) - 4) < x3 → (vp_in x3 sc.1) ∧ ((((sc.2 (Int32.toNatClampNeg x3)) &&& 31) = 0 → (vp_in (x3 + 1) sc.1) ∧ (gr l sc m_X10_type [.ref 0, .int (sc.2 (Int32.toNatClampNeg (x3 + 1)))] M (fun r1 M2 => ∃ v3 : Int32, r1 = some (.int v3) ∧ ((vp_in (x3 + 1) sc.1) ∧ (gr l sc m_X11_type [.ref 42, .int (sc.2 (Int32.toNatClampNeg (x3 + 1)))] M2 (fun r4 M5 => ∃ v6 : Int32, r4 = some (.int v6) ∧ ((v3 = v6 → gv l sc m_L_law 18 [.long 0, .ref 0, .ref 42, .int (x3 + 4)] [] M5 Q) ∧ (¬ v3 = v6 → Q (some (.int 0)) M5)))))))) ∧ (((sc.2 (Int32.toNatClampNeg x3)) &&& 31) = 1 → gr l sc m_X10_clear [.ref 0] M (fun r7 M8 => ∃ v9 : Int32, r7 = some (.int v9) ∧ (gr l sc m_X11_clear [.ref 42] M8 (fun r10 M11 => ∃ v12 : Int32, r10 = some (.int v12) ∧ ((v9 = v12 → gv l sc m_L_law 18 [.long 0, .ref 0, .ref 42, .int (x3 + 4)] [] M11 Q) ∧ (¬ v9 = v12 → Q (some (.int 0)) M11)))))) ∧ (((sc.2 (Int32.toNatClampNeg x3)) &&& 31) = 2 → gr l sc m_X10_modes [.ref 0] M (fun r13 M14 => ∃ v15 : Int32, r13 = some (.int v15) ∧ (gr l sc m_X11_modes [.ref 42] M14 (fun r16 M17 => ∃ v18 : Int32, r16 = some (.int v18) ∧ ((v15 = v18 → gv l sc m_L_law 18 [.long 0, .ref 0, .ref 42, .int (x3 + 4)] [] M17 Q) ∧ (¬ v15 = v18 → Q (some (.int 0)) M17)))))) ∧ (((sc.2 (Int32.toNatClampNeg x3)) &&& 31) = 3 → (vp_in (x3 + 1) sc.1 ∧ vp_in (x3 + 2) sc.1) ∧ (gr l sc m_X10_cell [.ref 0, .int (sc.2 (Int32.toNatClampNeg (x3 + 1))), .int (sc.2 (Int32.toNatClampNeg (x3 + 2)))] M (fun r19 M20 => ∃ v21 : Int32, r19 = some (.int v21) ∧ ((vp_in (x3 + 1) sc.1 ∧ vp_in (x3 + 2) sc.1) ∧ (gr l sc m_X11_cell [.ref 42, .int (sc.2 (Int32.toNatClampNeg (x3 + 1))), .int (sc.2 (Int32.toNatClampNeg (x3 + 2)))] M20 (fun r22 M23 => ∃ v24 : Int32, r22 = some (.int v24) ∧ ((v21 = v24 → gv l sc m_L_law 18 [.long 0, .ref 0, .ref 42, .int (x3 + 4)] [] M23 Q) ∧ (¬ v21 = v24 → Q (some (.int 0)) M23)))))))) ∧ (((sc.2 (Int32.toNatClampNeg x3)) &&& 31) = 4 → (vp_in (x3 + 1) sc.1 ∧ vp_in (x3 + 2) sc.1 ∧ vp_in (x3 + 3) sc.1) ∧ (gr l sc m_X10_part [.ref 0, .int (sc.2 (Int32.toNatClampNeg (x3 + 1))), .int (sc.2 (Int32.toNatClampNeg (x3 + 2))), .int (sc.2 (Int32.toNatClampNeg (x3 + 3)))] M (fun r25 M26 => ∃ v27 : Int32, r25 = some (.int v27) ∧ ((vp_in (x3 + 1) sc.1 ∧ vp_in (x3 + 2) sc.1 ∧ vp_in (x3 + 3) sc.1) ∧ (gr l sc m_X11_part [.ref 42, .int (sc.2 (Int32.toNatClampNeg (x3 + 1))), .int (sc.2 (Int32.toNatClampNeg (x3 + 2))), .int (sc.2 (Int32.toNatClampNeg (x3 + 3)))] M26 (fun r28 M29 => ∃ v30 : Int32, r28 = some (.int v30) ∧ ((v27 = v30 → gv l sc m_L_law 18 [.long 0, .ref 0, .ref 42, .int (x3 + 4)] [] M29 Q) ∧ (¬ v27 = v30 → Q (some (.int 0)) M29)))))))) ∧ (((sc.2 (Int32.toNatClampNeg x3)) &&& 31) = 5 → (vp_in (x3 + 1) sc.1) ∧ (gr l sc m_X10_plays [.ref 0, .int (sc.2 (Int32.toNatClampNeg (x3 + 1)))] M (fun r31 M32 => ∃ v33 : Int32, r31 = some (.int v33) ∧ ((vp_in (x3 + 1) sc.1) ∧ (gr l sc m_X11_plays [.ref 42, .int (sc.2 (Int32.toNatClampNeg (x3 + 1)))] M32 (fun r34 M35 => ∃ v36 : Int32, r34 = some (.int v36) ∧ ((v33 = v36 → gv l sc m_L_law 18 [.long 0, .ref 0, .ref 42, .int (x3 + 4)] [] M35 Q) ∧ (¬ v33 = v36 → Q (some (.int 0)) M35)))))))) ∧ (((sc.2 (Int32.toNatClampNeg x3)) &&& 31) = 6 → gr l sc m_X10_cuts [.ref 0] M (fun r37 M38 => ∃ v39 : Int32, r37 = some (.int v39) ∧ (gr l sc m_X11_cuts [.ref 42] M38 (fun r40 M41 => ∃ v42 : Int32, r40 = some (.int v42) ∧ ((v39 = v42 → gv l sc m_L_law 18 [.long 0, .ref 0, .ref 42, .int (x3 + 4)] [] M41 Q) ∧ (¬ v39 = v42 → Q (some (.int 0)) M41)))))) ∧ (((sc.2 (Int32.toNatClampNeg x3)) &&& 31) = 7 → (vp_in (x3 + 1) sc.1 ∧ vp_in (x3 + 2) sc.1) ∧ (gr l sc m_X10_mends [.ref 0, .int (sc.2 (Int32.toNatClampNeg (x3 + 1))), .int (sc.2 (Int32.toNatClampNeg (x3 + 2)))] M (fun r43 M44 => ∃ v45 : Int32, r43 = some (.int v45) ∧ ((vp_in (x3 + 1) sc.1 ∧ vp_in (x3 + 2) sc.1) ∧ (gr l sc m_X11_mends [.ref 42, .int (sc.2 (Int32.toNatClampNeg (x3 + 1))), .int (sc.2 (Int32.toNatClampNeg (x3 + 2)))] M44 (fun r46 M47 => ∃ v48 : Int32, r46 = some (.int v48) ∧ ((v45 = v48 → gv l sc m_L_law 18 [.long 0, .ref 0, .ref 42, .int (x3 + 4)] [] M47 Q) ∧ (¬ v45 = v48 → Q (some (.int 0)) M47)))))))) ∧ (((sc.2 (Int32.toNatClampNeg x3)) &&& 31) = 8 → (vp_in (x3 + 1) sc.1) ∧ (gr l sc m_X10_moves [.ref 0, .int (sc.2 (Int32.toNatClampNeg (x3 + 1)))] M (fun r49 M50 => ∃ v51 : Int32, r49 = some (.int v51) ∧ ((vp_in (x3 + 1) sc.1) ∧ (gr l sc m_X11_moves [.ref 42, .int (sc.2 (Int32.toNatClampNeg (x3 + 1)))] M50 (fun r52 M53 => ∃ v54 : Int32, r52 = some (.int v54) ∧ ((v51 = v54 → gv l sc m_L_law 18 [.long 0, .ref 0, .ref 42, .int (x3 + 4)] [] M53 Q) ∧ (¬ v51 = v54 → Q (some (.int 0)) M53)))))))) ∧ (((sc.2 (Int32.toNatClampNeg x3)) &&& 31) = 9 → gr l sc m_X10_undo [.ref 0] M (fun r55 M56 => ∃ v57 : Int32, r55 = some (.int v57) ∧ (gr l sc m_X11_undo [.ref 42] M56 (fun r58 M59 => ∃ v60 : Int32, r58 = some (.int v60) ∧ ((v57 = v60 → gv l sc m_L_law 18 [.long 0, .ref 0, .ref 42, .int (x3 + 4)] [] M59 Q) ∧ (¬ v57 = v60 → Q (some (.int 0)) M59)))))) ∧ (((sc.2 (Int32.toNatClampNeg x3)) &&& 31) = 10 → (vp_in (x3 + 1) sc.1) ∧ (gr l sc m_X10_note [.ref 0, .int (sc.2 (Int32.toNatClampNeg (x3 + 1)))] M (fun r61 M62 => ∃ v63 : Int32, r61 = some (.int v63) ∧ ((vp_in (x3 + 1) sc.1) ∧ (gr l sc m_X11_note [.ref 42, .int (sc.2 (Int32.toNatClampNeg (x3 + 1)))] M62 (fun r64 M65 => ∃ v66 : Int32, r64 = some (.int v66) ∧ ((v63 = v66 → gv l sc m_L_law 18 [.long 0, .ref 0, .ref 42, .int (x3 + 4)] [] M65 Q) ∧ (¬ v63 = v66 → Q (some (.int 0)) M65)))))))) ∧ (((sc.2 (Int32.toNatClampNeg x3)) &&& 31) = 11 → (vp_in (x3 + 1) sc.1 ∧ vp_in (x3 + 2) sc.1) ∧ (gr l sc m_X10_has [.ref 0, .int (sc.2 (Int32.toNatClampNeg (x3 + 1))), .int (sc.2 (Int32.toNatClampNeg (x3 + 2)))] M (fun r67 M68 => ∃ v69 : Int32, r67 = some (.int v69) ∧ ((vp_in (x3 + 1) sc.1 ∧ vp_in (x3 + 2) sc.1) ∧ (gr l sc m_X11_has [.ref 42, .int (sc.2 (Int32.toNatClampNeg (x3 + 1))), .int (sc.2 (Int32.toNatClampNeg (x3 + 2)))] M68 (fun r70 M71 => ∃ v72 : Int32, r70 = some (.int v72) ∧ ((v69 = v72 → gv l sc m_L_law 18 [.long 0, .ref 0, .ref 42, .int (x3 + 4)] [] M71 Q) ∧ (¬ v69 = v72 → Q (some (.int 0)) M71)))))))) ∧ (((sc.2 (Int32.toNatClampNeg x3)) &&& 31) = 12 → (vp_in (x3 + 1) sc.1 ∧ vp_in (x3 + 2) sc.1 ∧ vp_in (x3 + 3) sc.1) ∧ (gr l sc m_X10_shares [.ref 0, .int (sc.2 (Int32.toNatClampNeg (x3 + 1))), .int (sc.2 (Int32.toNatClampNeg (x3 + 2))), .int (sc.2 (Int32.toNatClampNeg (x3 + 3)))] M (fun r73 M74 => ∃ v75 : Int32, r73 = some (.int v75) ∧ ((vp_in (x3 + 1) sc.1 ∧ vp_in (x3 + 2) sc.1 ∧ vp_in (x3 + 3) sc.1) ∧ (gr l sc m_X11_shares [.ref 42, .int (sc.2 (Int32.toNatClampNeg (x3 + 1))), .int (sc.2 (Int32.toNatClampNeg (x3 + 2))), .int (sc.2 (Int32.toNatClampNeg (x3 + 3)))] M74 (fun r76 M77 => ∃ v78 : Int32, r76 = some (.int v78) ∧ ((v75 = v78 → gv l sc m_L_law 18 [.long 0, .ref 0, .ref 42, .int (x3 + 4)] [] M77 Q) ∧ (¬ v75 = v78 → Q (some (.int 0)) M77)))))))) ∧ (((sc.2 (Int32.toNatClampNeg x3)) &&& 31) = 13 → (vp_in (x3 + 1) sc.1 ∧ vp_in (x3 + 2) sc.1 ∧ vp_in (x3 + 3) sc.1) ∧ (gr l sc m_X10_way [.ref 0, .int (sc.2 (Int32.toNatClampNeg (x3 + 1))), .int (sc.2 (Int32.toNatClampNeg (x3 + 2))), .int (sc.2 (Int32.toNatClampNeg (x3 + 3)))] M (fun r79 M80 => ∃ v81 : Int32, r79 = some (.int v81) ∧ ((vp_in (x3 + 1) sc.1 ∧ vp_in (x3 + 2) sc.1 ∧ vp_in (x3 + 3) sc.1) ∧ (gr l sc m_X11_way [.ref 42, .int (sc.2 (Int32.toNatClampNeg (x3 + 1))), .int (sc.2 (Int32.toNatClampNeg (x3 + 2))), .int (sc.2 (Int32.toNatClampNeg (x3 + 3)))] M80 (fun r82 M83 => ∃ v84 : Int32, r82 = some (.int v84) ∧ ((v81 = v84 → gv l sc m_L_law 18 [.long 0, .ref 0, .ref 42, .int (x3 + 4)] [] M83 Q) ∧ (¬ v81 = v84 → Q (some (.int 0)) M83)))))))) ∧ (((sc.2 (Int32.toNatClampNeg x3)) &&& 31) = 14 → (vp_in (x3 + 1) sc.1 ∧ vp_in (x3 + 2) sc.1) ∧ (gr l sc m_X10_farthest [.ref 0, .int (sc.2 (Int32.toNatClampNeg (x3 + 1))), .int (sc.2 (Int32.toNatClampNeg (x3 + 2)))] M (fun r85 M86 => ∃ v87 : Int32, r85 = some (.int v87) ∧ ((vp_in (x3 + 1) sc.1 ∧ vp_in (x3 + 2) sc.1) ∧ (gr l sc m_X11_farthest [.ref 42, .int (sc.2 (Int32.toNatClampNeg (x3 + 1))), .int (sc.2 (Int32.toNatClampNeg (x3 + 2)))] M86 (fun r88 M89 => ∃ v90 : Int32, r88 = some (.int v90) ∧ ((v87 = v90 → gv l sc m_L_law 18 [.long 0, .ref 0, .ref 42, .int (x3 + 4)] [] M89 Q) ∧ (¬ v87 = v90 → Q (some (.int 0)) M89)))))))) ∧ (((sc.2 (Int32.toNatClampNeg x3)) &&& 31) = 15 → (vp_in (x3 + 1) sc.1) ∧ (gr l sc m_X10_parse [.ref 0, .int (sc.2 (Int32.toNatClampNeg (x3 + 1)))] M (fun r91 M92 => ∃ v93 : Int32, r91 = some (.int v93) ∧ ((vp_in (x3 + 1) sc.1) ∧ (gr l sc m_X11_parse [.ref 42, .int (sc.2 (Int32.toNatClampNeg (x3 + 1)))] M92 (fun r94 M95 => ∃ v96 : Int32, r94 = some (.int v96) ∧ ((v93 = v96 → gv l sc m_L_law 18 [.long 0, .ref 0, .ref 42, .int (x3 + 4)] [] M95 Q) ∧ (¬ v93 = v96 → Q (some (.int 0)) M95)))))))) ∧ (((sc.2 (Int32.toNatClampNeg x3)) &&& 31) = 16 → (vp_in (x3 + 1) sc.1 ∧ vp_in (x3 + 2) sc.1) ∧ (gr l sc m_X10_parsed [.ref 0, .int (sc.2 (Int32.toNatClampNeg (x3 + 1))), .int (sc.2 (Int32.toNatClampNeg (x3 + 2)))] M (fun r97 M98 => ∃ v99 : Int32, r97 = some (.int v99) ∧ ((vp_in (x3 + 1) sc.1 ∧ vp_in (x3 + 2) sc.1) ∧ (gr l sc m_X11_parsed [.ref 42, .int (sc.2 (Int32.toNatClampNeg (x3 + 1))), .int (sc.2 (Int32.toNatClampNeg (x3 + 2)))] M98 (fun r100 M101 => ∃ v102 : Int32, r100 = some (.int v102) ∧ ((v99 = v102 → gv l sc m_L_law 18 [.long 0, .ref 0, .ref 42, .int (x3 + 4)] [] M101 Q) ∧ (¬ v99 = v102 → Q (some (.int 0)) M101)))))))) ∧ (((sc.2 (Int32.toNatClampNeg x3)) &&& 31) = 17 → gr l sc m_X10_reach [.ref 0] M (fun r103 M104 => ∃ v105 : Int32, r103 = some (.int v105) ∧ (gr l sc m_X11_reach [.ref 42] M104 (fun r106 M107 => ∃ v108 : Int32, r106 = some (.int v108) ∧ ((v105 = v108 → gv l sc m_L_law 18 [.long 0, .ref 0, .ref 42, .int (x3 + 4)] [] M107 Q) ∧ (¬ v105 = v108 → Q (some (.int 0)) M107)))))) ∧ (((sc.2 (Int32.toNatClampNeg x3)) &&& 31) = 18 → (vp_in (x3 + 1) sc.1) ∧ (gr l sc m_X10_fit [.ref 0, .int (sc.2 (Int32.toNatClampNeg (x3 + 1)))] M (fun r109 M110 => ∃ v111 : Int32, r109 = some (.int v111) ∧ ((vp_in (x3 + 1) sc.1) ∧ (gr l sc m_X11_fit [.ref 42, .int (sc.2 (Int32.toNatClampNeg (x3 + 1)))] M110 (fun r112 M113 => ∃ v114 : Int32, r112 = some (.int v114) ∧ ((v111 = v114 → gv l sc m_L_law 18 [.long 0, .ref 0, .ref 42, .int (x3 + 4)] [] M113 Q) ∧ (¬ v111 = v114 → Q (some (.int 0)) M113)))))))) ∧ (((sc.2 (Int32.toNatClampNeg x3)) &&& 31) = 19 → gr l sc m_X10_home [.ref 0] M (fun r115 M116 => ∃ v117 : Int32, r115 = some (.int v117) ∧ (gr l sc m_X11_home [.ref 42] M116 (fun r118 M119 => ∃ v120 : Int32, r118 = some (.int v120) ∧ ((v117 = v120 → gv l sc m_L_law 18 [.long 0, .ref 0, .ref 42, .int (x3 + 4)] [] M119 Q) ∧ (¬ v117 = v120 → Q (some (.int 0)) M119)))))) ∧ (((sc.2 (Int32.toNatClampNeg x3)) &&& 31) = 20 → (vp_in (x3 + 1) sc.1 ∧ vp_in (x3 + 2) sc.1) ∧ (gr l sc m_X10_sees [.ref 0, .int (sc.2 (Int32.toNatClampNeg (x3 + 1))), .int (sc.2 (Int32.toNatClampNeg (x3 + 2)))] M (fun r121 M122 => ∃ v123 : Int32, r121 = some (.int v123) ∧ ((vp_in (x3 + 1) sc.1 ∧ vp_in (x3 + 2) sc.1) ∧ (gr l sc m_X11_sees [.ref 42, .int (sc.2 (Int32.toNatClampNeg (x3 + 1))), .int (sc.2 (Int32.toNatClampNeg (x3 + 2)))] M122 (fun r124 M125 => ∃ v126 : Int32, r124 = some (.int v126) ∧ ((v123 = v126 → gv l sc m_L_law 18 [.long 0, .ref 0, .ref 42, .int (x3 + 4)] [] M125 Q) ∧ (¬ v123 = v126 → Q (some (.int 0)) M125)))))))) ∧ (((sc.2 (Int32.toNatClampNeg x3)) &&& 31) = 21 → gr l sc m_X10_forget [.ref 0] M (fun r127 M128 => ∃ v129 : Int32, r127 = some (.int v129) ∧ (gr l sc m_X11_forget [.ref 42] M128 (fun r130 M131 => ∃ v132 : Int32, r130 = some (.int v132) ∧ ((v129 = v132 → gv l sc m_L_law 18 [.long 0, .ref 0, .ref 42, .int (x3 + 4)] [] M131 Q) ∧ (¬ v129 = v132 → Q (some (.int 0)) M131)))))) ∧ (((sc.2 (Int32.toNatClampNeg x3)) &&& 31) = 22 → gr l sc m_X10_unseen [.ref 0] M (fun r133 M134 => ∃ v135 : Int32, r133 = some (.int v135) ∧ (gr l sc m_X11_unseen [.ref 42] M134 (fun r136 M137 => ∃ v138 : Int32, r136 = some (.int v138) ∧ ((v135 = v138 → gv l sc m_L_law 18 [.long 0, .ref 0, .ref 42, .int (x3 + 4)] [] M137 Q) ∧ (¬ v135 = v138 → Q (some (.int 0)) M137)))))) ∧ (((sc.2 (Int32.toNatClampNeg x3)) &&& 31) = 23 → (vp_in (x3 + 1) sc.1) ∧ (gr l sc m_X10_keep [.ref 0, .int (sc.2 (Int32.toNatClampNeg (x3 + 1)))] M (fun r139 M140 => ∃ v141 : Int32, r139 = some (.int v141) ∧ ((vp_in (x3 + 1) sc.1) ∧ (gr l sc m_X11_keep [.ref 42, .int (sc.2 (Int32.toNatClampNeg (x3 + 1)))] M140 (fun r142 M143 => ∃ v144 : Int32, r142 = some (.int v144) ∧ ((v141 = v144 → gv l sc m_L_law 18 [.long 0, .ref 0, .ref 42, .int (x3 + 4)] [] M143 Q) ∧ (¬ v141 = v144 → Q (some (.int 0)) M143)))))))) ∧ (((sc.2 (Int32.toNatClampNeg x3)) &&& 31) = 24 → (vp_in (x3 + 1) sc.1) ∧ (gr l sc m_X10_back [.ref 0, .int (sc.2 (Int32.toNatClampNeg (x3 + 1)))] M (fun r145 M146 => ∃ v147 : Int32, r145 = some (.int v147) ∧ ((vp_in (x3 + 1) sc.1) ∧ (gr l sc m_X11_back [.ref 42, .int (sc.2 (Int32.toNatClampNeg (x3 + 1)))] M146 (fun r148 M149 => ∃ v150 : Int32, r148 = some (.int v150) ∧ ((v147 = v150 → gv l sc m_L_law 18 [.long 0, .ref 0, .ref 42, .int (x3 + 4)] [] M149 Q) ∧ (¬ v147 = v150 → Q (some (.int 0)) M149)))))))) ∧ (((sc.2 (Int32.toNatClampNeg x3)) &&& 31) = 25 → (vp_in (x3 + 1) sc.1) ∧ (gr l sc m_X10_count [.ref 0, .int (sc.2 (Int32.toNatClampNeg (x3 + 1)))] M (fun r151 M152 => ∃ v153 : Int32, r151 = some (.int v153) ∧ ((vp_in (x3 + 1) sc.1) ∧ (gr l sc m_X11_count [.ref 42, .int (sc.2 (Int32.toNatClampNeg (x3 + 1)))] M152 (fun r154 M155 => ∃ v156 : Int32, r154 = some (.int v156) ∧ ((v153 = v156 → gv l sc m_L_law 18 [.long 0, .ref 0, .ref 42, .int (x3 + 4)] [] M155 Q) ∧ (¬ v153 = v156 → Q (some (.int 0)) M155)))))))) ∧ (¬ ((sc.2 (Int32.toNatClampNeg x3)) &&& 31) = 0 → ¬ ((sc.2 (Int32.toNatClampNeg x3)) &&& 31) = 1 → ¬ ((sc.2 (Int32.toNatClampNeg x3)) &&& 31) = 2 → ¬ ((sc.2 (Int32.toNatClampNeg x3)) &&& 31) = 3 → ¬ ((sc.2 (Int32.toNatClampNeg x3)) &&& 31) = 4 → ¬ ((sc.2 (Int32.toNatClampNeg x3)) &&& 31) = 5 → ¬ ((sc.2 (Int32.toNatClampNeg x3)) &&& 31) = 6 → ¬ ((sc.2 (Int32.toNatClampNeg x3)) &&& 31) = 7 → ¬ ((sc.2 (Int32.toNatClampNeg x3)) &&& 31) = 8 → ¬ ((sc.2 (Int32.toNatClampNeg x3)) &&& 31) = 9 → ¬ ((sc.2 (Int32.toNatClampNeg x3)) &&& 31) = 10 → ¬ ((sc.2 (Int32.toNatClampNeg x3)) &&& 31) = 11 → ¬ ((sc.2 (Int32.toNatClampNeg x3)) &&& 31) = 12 → ¬ ((sc.2 (Int32.toNatClampNeg x3)) &&& 31) = 13 → ¬ ((sc.2 (Int32.toNatClampNeg x3)) &&& 31) = 14 → ¬ ((sc.2 (Int32.toNatClampNeg x3)) &&& 31) = 15 → ¬ ((sc.2 (Int32.toNatClampNeg x3)) &&& 31) = 16 → ¬ ((sc.2 (Int32.toNatClampNeg x3)) &&& 31) = 17 → ¬ ((sc.2 (Int32.toNatClampNeg x3)) &&& 31) = 18 → ¬ ((sc.2 (Int32.toNatClampNeg x3)) &&& 31) = 19 → ¬ ((sc.2 (Int32.toNatClampNeg x3)) &&& 31) = 20 → ¬ ((sc.2 (Int32.toNatClampNeg x3)) &&& 31) = 21 → ¬ ((sc.2 (Int32.toNatClampNeg x3)) &&& 31) = 22 → ¬ ((sc.2 (Int32.toNatClampNeg x3)) &&& 31) = 23 → ¬ ((sc.2 (Int32.toNatClampNeg x3)) &&& 31) = 24 → ¬ ((sc.2 (Int32.toNatClampNeg x3)) &&& 31) = 25 → gv l sc m_L_law 18 [.long 0, .ref 0, .ref 42, .int (x3 + 4)] [] M Q)))) : gv l sc m_L_law 18 [.long 0, .ref 0, .ref 42, .int x3] [] M Q := by
  refine gv_seg ok_L_law 10 5 (Ps := []) (pc' := 23) (ls' := [.long 0, .ref 0, .ref 42, .int x3]) (st' := [.int ((Int32.ofNat sc.1) - 4), .int x3]) (M2 := M) rfl trivial ?_
  refine gv_icmp_gt (t := 796) (by decide) (gl_dec ok_L_law 15 23 (.if_icmp .gt 773) 3 rfl) (fun c => ?_) (fun c => ?_)
  · replace h := h.1 c
    refine gv_seg ok_L_law 505 1 (Ps := []) (pc' := 797) (ls' := [.long 0, .ref 0, .ref 42, .int x3]) (st' := [.int 1]) (M2 := M) rfl trivial ?_
    exact gv_retZ (gl_dec ok_L_law 506 797 (.ireturn) 1 rfl) rfl (by decide) h
  · replace h := h.2 c
    obtain ⟨hp, h⟩ := h
    refine gv_seg ok_L_law 16 5 (Ps := [vp_in x3 sc.1]) (pc' := 32) (ls' := [.long 0, .ref 0, .ref 42, .int x3]) (st' := [.int ((sc.2 (Int32.toNatClampNeg x3)) &&& 31)]) (M2 := M) rfl hp ?_
    have hd : decode m_L_law.2.1 32 = .ok (.tableswitch 758 0 25 #[120, 143, 156, 169, 202, 245, 268, 281, 314, 337, 350, 373, 406, 449, 492, 525, 548, 581, 594, 617, 630, 663, 676, 689, 712, 735], 120) := by decide +kernel
    by_cases c0 : ((sc.2 (Int32.toNatClampNeg x3)) &&& 31) = 0
    · replace h := h.1 c0
      refine gv_table hd (by rw [c0]; decide) (by rw [c0]; decide) (off := 120) (t := 152) (by rw [c0]; rfl) (by decide) ?_
      obtain ⟨hp, h⟩ := h
      refine gv_seg ok_L_law 21 6 (Ps := [vp_in (x3 + 1) sc.1]) (pc' := 158) (ls' := [.long 0, .ref 0, .ref 42, .int x3]) (st' := [.int (sc.2 (Int32.toNatClampNeg (x3 + 1))), .ref 0]) (M2 := M) rfl hp ?_
      refine gv_vcall (M' := m_X10_type) (o := 0) (ci := 10) (As := [.int (sc.2 (Int32.toNatClampNeg (x3 + 1)))]) (st := []) (gl_dec ok_L_law 27 158 (.invokevirtual 13) 3 rfl) (gl_lnk ok_L_law 27 rfl rfl) mw_X10_type iw_X10_type lw_X10_type ⟨by decide, by decide⟩ rfl rfl rfl ⟨rfl, Nat.le_of_ble_eq_true rfl⟩ h (fun r1 M2 hq => ?_)
      obtain ⟨v3, rfl, h⟩ := hq
      change gv l sc m_L_law 161 [.long 0, .ref 0, .ref 42, .int x3] [.int v3] M2 Q
      obtain ⟨hp, h⟩ := h
      refine gv_seg ok_L_law 28 6 (Ps := [vp_in (x3 + 1) sc.1]) (pc' := 167) (ls' := [.long 0, .ref 0, .ref 42, .int x3]) (st' := [.int (sc.2 (Int32.toNatClampNeg (x3 + 1))), .ref 42, .int v3]) (M2 := M2) rfl hp ?_
      refine gv_vcall (M' := m_X11_type) (o := 42) (ci := 11) (As := [.int (sc.2 (Int32.toNatClampNeg (x3 + 1)))]) (st := [.int v3]) (gl_dec ok_L_law 34 167 (.invokevirtual 17) 3 rfl) (gl_lnk ok_L_law 34 rfl rfl) mw_X11_type iw_X11_type lw_X11_type ⟨by decide, by decide⟩ rfl rfl rfl ⟨rfl, Nat.le_of_ble_eq_true rfl⟩ h (fun r4 M5 hq => ?_)
      obtain ⟨v6, rfl, h⟩ := hq
      change gv l sc m_L_law 170 [.long 0, .ref 0, .ref 42, .int x3] [.int v6, .int v3] M5 Q
      refine gv_icmp_eq (t := 790) (by decide) (gl_dec ok_L_law 35 170 (.if_icmp .eq 620) 3 rfl) (fun c => ?_) (fun c => ?_)
      · replace h := h.1 c
        refine gv_seg ok_L_law 503 1 (Ps := []) (pc' := 793) (ls' := [.long 0, .ref 0, .ref 42, .int (x3 + 4)]) (st' := []) (M2 := M5) rfl trivial ?_
        refine gv_goto (t := 18) (by decide) (gl_dec ok_L_law 504 793 (.goto (-775)) 3 rfl) ?_
        exact h
      · replace h := h.2 c
        refine gv_seg ok_L_law 36 1 (Ps := []) (pc' := 174) (ls' := [.long 0, .ref 0, .ref 42, .int x3]) (st' := [.int 0]) (M2 := M5) rfl trivial ?_
        exact gv_retZ (gl_dec ok_L_law 37 174 (.ireturn) 1 rfl) rfl (by decide) h
    by_cases c1 : ((sc.2 (Int32.toNatClampNeg x3)) &&& 31) = 1
    · replace h := h.2.1 c1
      refine gv_table hd (by rw [c1]; decide) (by rw [c1]; decide) (off := 143) (t := 175) (by rw [c1]; rfl) (by decide) ?_
      refine gv_seg ok_L_law 38 1 (Ps := []) (pc' := 176) (ls' := [.long 0, .ref 0, .ref 42, .int x3]) (st' := [.ref 0]) (M2 := M) rfl trivial ?_
      refine gv_vcall (M' := m_X10_clear) (o := 0) (ci := 10) (As := []) (st := []) (gl_dec ok_L_law 39 176 (.invokevirtual 18) 3 rfl) (gl_lnk ok_L_law 39 rfl rfl) mw_X10_clear iw_X10_clear lw_X10_clear ⟨by decide, by decide⟩ rfl rfl rfl ⟨rfl, Nat.le_of_ble_eq_true rfl⟩ h (fun r7 M8 hq => ?_)
      obtain ⟨v9, rfl, h⟩ := hq
      change gv l sc m_L_law 179 [.long 0, .ref 0, .ref 42, .int x3] [.int v9] M8 Q
      refine gv_seg ok_L_law 40 1 (Ps := []) (pc' := 180) (ls' := [.long 0, .ref 0, .ref 42, .int x3]) (st' := [.ref 42, .int v9]) (M2 := M8) rfl trivial ?_
      refine gv_vcall (M' := m_X11_clear) (o := 42) (ci := 11) (As := []) (st := [.int v9]) (gl_dec ok_L_law 41 180 (.invokevirtual 22) 3 rfl) (gl_lnk ok_L_law 41 rfl rfl) mw_X11_clear iw_X11_clear lw_X11_clear ⟨by decide, by decide⟩ rfl rfl rfl ⟨rfl, Nat.le_of_ble_eq_true rfl⟩ h (fun r10 M11 hq => ?_)
      obtain ⟨v12, rfl, h⟩ := hq
      change gv l sc m_L_law 183 [.long 0, .ref 0, .ref 42, .int x3] [.int v12, .int v9] M11 Q
      refine gv_icmp_eq (t := 790) (by decide) (gl_dec ok_L_law 42 183 (.if_icmp .eq 607) 3 rfl) (fun c => ?_) (fun c => ?_)
      · replace h := h.1 c
        refine gv_seg ok_L_law 503 1 (Ps := []) (pc' := 793) (ls' := [.long 0, .ref 0, .ref 42, .int (x3 + 4)]) (st' := []) (M2 := M11) rfl trivial ?_
        refine gv_goto (t := 18) (by decide) (gl_dec ok_L_law 504 793 (.goto (-775)) 3 rfl) ?_
        exact h
      · replace h := h.2 c
        refine gv_seg ok_L_law 43 1 (Ps := []) (pc' := 187) (ls' := [.long 0, .ref 0, .ref 42, .int x3]) (st' := [.int 0]) (M2 := M11) rfl trivial ?_
        exact gv_retZ (gl_dec ok_L_law 44 187 (.ireturn) 1 rfl) rfl (by decide) h
    by_cases c2 : ((sc.2 (Int32.toNatClampNeg x3)) &&& 31) = 2
    · replace h := h.2.2.1 c2
      refine gv_table hd (by rw [c2]; decide) (by rw [c2]; decide) (off := 156) (t := 188) (by rw [c2]; rfl) (by decide) ?_
      refine gv_seg ok_L_law 45 1 (Ps := []) (pc' := 189) (ls' := [.long 0, .ref 0, .ref 42, .int x3]) (st' := [.ref 0]) (M2 := M) rfl trivial ?_
      refine gv_vcall (M' := m_X10_modes) (o := 0) (ci := 10) (As := []) (st := []) (gl_dec ok_L_law 46 189 (.invokevirtual 23) 3 rfl) (gl_lnk ok_L_law 46 rfl rfl) mw_X10_modes iw_X10_modes lw_X10_modes ⟨by decide, by decide⟩ rfl rfl rfl ⟨rfl, Nat.le_of_ble_eq_true rfl⟩ h (fun r13 M14 hq => ?_)
      obtain ⟨v15, rfl, h⟩ := hq
      change gv l sc m_L_law 192 [.long 0, .ref 0, .ref 42, .int x3] [.int v15] M14 Q
      refine gv_seg ok_L_law 47 1 (Ps := []) (pc' := 193) (ls' := [.long 0, .ref 0, .ref 42, .int x3]) (st' := [.ref 42, .int v15]) (M2 := M14) rfl trivial ?_
      refine gv_vcall (M' := m_X11_modes) (o := 42) (ci := 11) (As := []) (st := [.int v15]) (gl_dec ok_L_law 48 193 (.invokevirtual 26) 3 rfl) (gl_lnk ok_L_law 48 rfl rfl) mw_X11_modes iw_X11_modes lw_X11_modes ⟨by decide, by decide⟩ rfl rfl rfl ⟨rfl, Nat.le_of_ble_eq_true rfl⟩ h (fun r16 M17 hq => ?_)
      obtain ⟨v18, rfl, h⟩ := hq
      change gv l sc m_L_law 196 [.long 0, .ref 0, .ref 42, .int x3] [.int v18, .int v15] M17 Q
      refine gv_icmp_eq (t := 790) (by decide) (gl_dec ok_L_law 49 196 (.if_icmp .eq 594) 3 rfl) (fun c => ?_) (fun c => ?_)
      · replace h := h.1 c
        refine gv_seg ok_L_law 503 1 (Ps := []) (pc' := 793) (ls' := [.long 0, .ref 0, .ref 42, .int (x3 + 4)]) (st' := []) (M2 := M17) rfl trivial ?_
        refine gv_goto (t := 18) (by decide) (gl_dec ok_L_law 504 793 (.goto (-775)) 3 rfl) ?_
        exact h
      · replace h := h.2 c
        refine gv_seg ok_L_law 50 1 (Ps := []) (pc' := 200) (ls' := [.long 0, .ref 0, .ref 42, .int x3]) (st' := [.int 0]) (M2 := M17) rfl trivial ?_
        exact gv_retZ (gl_dec ok_L_law 51 200 (.ireturn) 1 rfl) rfl (by decide) h
    by_cases c3 : ((sc.2 (Int32.toNatClampNeg x3)) &&& 31) = 3
    · replace h := h.2.2.2.1 c3
      refine gv_table hd (by rw [c3]; decide) (by rw [c3]; decide) (off := 169) (t := 201) (by rw [c3]; rfl) (by decide) ?_
      obtain ⟨hp, h⟩ := h
      refine gv_seg ok_L_law 52 11 (Ps := [vp_in (x3 + 1) sc.1, vp_in (x3 + 2) sc.1]) (pc' := 212) (ls' := [.long 0, .ref 0, .ref 42, .int x3]) (st' := [.int (sc.2 (Int32.toNatClampNeg (x3 + 2))), .int (sc.2 (Int32.toNatClampNeg (x3 + 1))), .ref 0]) (M2 := M) rfl ⟨hp.1, hp.2⟩ ?_
      refine gv_vcall (M' := m_X10_cell) (o := 0) (ci := 10) (As := [.int (sc.2 (Int32.toNatClampNeg (x3 + 1))), .int (sc.2 (Int32.toNatClampNeg (x3 + 2)))]) (st := []) (gl_dec ok_L_law 63 212 (.invokevirtual 27) 3 rfl) (gl_lnk ok_L_law 63 rfl rfl) mw_X10_cell iw_X10_cell lw_X10_cell ⟨by decide, by decide⟩ rfl rfl rfl ⟨rfl, Nat.le_of_ble_eq_true rfl⟩ h (fun r19 M20 hq => ?_)
      obtain ⟨v21, rfl, h⟩ := hq
      change gv l sc m_L_law 215 [.long 0, .ref 0, .ref 42, .int x3] [.int v21] M20 Q
      obtain ⟨hp, h⟩ := h
      refine gv_seg ok_L_law 64 11 (Ps := [vp_in (x3 + 1) sc.1, vp_in (x3 + 2) sc.1]) (pc' := 226) (ls' := [.long 0, .ref 0, .ref 42, .int x3]) (st' := [.int (sc.2 (Int32.toNatClampNeg (x3 + 2))), .int (sc.2 (Int32.toNatClampNeg (x3 + 1))), .ref 42, .int v21]) (M2 := M20) rfl ⟨hp.1, hp.2⟩ ?_
      refine gv_vcall (M' := m_X11_cell) (o := 42) (ci := 11) (As := [.int (sc.2 (Int32.toNatClampNeg (x3 + 1))), .int (sc.2 (Int32.toNatClampNeg (x3 + 2)))]) (st := [.int v21]) (gl_dec ok_L_law 75 226 (.invokevirtual 31) 3 rfl) (gl_lnk ok_L_law 75 rfl rfl) mw_X11_cell iw_X11_cell lw_X11_cell ⟨by decide, by decide⟩ rfl rfl rfl ⟨rfl, Nat.le_of_ble_eq_true rfl⟩ h (fun r22 M23 hq => ?_)
      obtain ⟨v24, rfl, h⟩ := hq
      change gv l sc m_L_law 229 [.long 0, .ref 0, .ref 42, .int x3] [.int v24, .int v21] M23 Q
      refine gv_icmp_eq (t := 790) (by decide) (gl_dec ok_L_law 76 229 (.if_icmp .eq 561) 3 rfl) (fun c => ?_) (fun c => ?_)
      · replace h := h.1 c
        refine gv_seg ok_L_law 503 1 (Ps := []) (pc' := 793) (ls' := [.long 0, .ref 0, .ref 42, .int (x3 + 4)]) (st' := []) (M2 := M23) rfl trivial ?_
        refine gv_goto (t := 18) (by decide) (gl_dec ok_L_law 504 793 (.goto (-775)) 3 rfl) ?_
        exact h
      · replace h := h.2 c
        refine gv_seg ok_L_law 77 1 (Ps := []) (pc' := 233) (ls' := [.long 0, .ref 0, .ref 42, .int x3]) (st' := [.int 0]) (M2 := M23) rfl trivial ?_
        exact gv_retZ (gl_dec ok_L_law 78 233 (.ireturn) 1 rfl) rfl (by decide) h
    by_cases c4 : ((sc.2 (Int32.toNatClampNeg x3)) &&& 31) = 4
    · replace h := h.2.2.2.2.1 c4
      refine gv_table hd (by rw [c4]; decide) (by rw [c4]; decide) (off := 202) (t := 234) (by rw [c4]; rfl) (by decide) ?_
      obtain ⟨hp, h⟩ := h
      refine gv_seg ok_L_law 79 16 (Ps := [vp_in (x3 + 1) sc.1, vp_in (x3 + 2) sc.1, vp_in (x3 + 3) sc.1]) (pc' := 250) (ls' := [.long 0, .ref 0, .ref 42, .int x3]) (st' := [.int (sc.2 (Int32.toNatClampNeg (x3 + 3))), .int (sc.2 (Int32.toNatClampNeg (x3 + 2))), .int (sc.2 (Int32.toNatClampNeg (x3 + 1))), .ref 0]) (M2 := M) rfl ⟨hp.1, hp.2.1, hp.2.2⟩ ?_
      refine gv_vcall (M' := m_X10_part) (o := 0) (ci := 10) (As := [.int (sc.2 (Int32.toNatClampNeg (x3 + 1))), .int (sc.2 (Int32.toNatClampNeg (x3 + 2))), .int (sc.2 (Int32.toNatClampNeg (x3 + 3)))]) (st := []) (gl_dec ok_L_law 95 250 (.invokevirtual 32) 3 rfl) (gl_lnk ok_L_law 95 rfl rfl) mw_X10_part iw_X10_part lw_X10_part ⟨by decide, by decide⟩ rfl rfl rfl ⟨rfl, Nat.le_of_ble_eq_true rfl⟩ h (fun r25 M26 hq => ?_)
      obtain ⟨v27, rfl, h⟩ := hq
      change gv l sc m_L_law 253 [.long 0, .ref 0, .ref 42, .int x3] [.int v27] M26 Q
      obtain ⟨hp, h⟩ := h
      refine gv_seg ok_L_law 96 16 (Ps := [vp_in (x3 + 1) sc.1, vp_in (x3 + 2) sc.1, vp_in (x3 + 3) sc.1]) (pc' := 269) (ls' := [.long 0, .ref 0, .ref 42, .int x3]) (st' := [.int (sc.2 (Int32.toNatClampNeg (x3 + 3))), .int (sc.2 (Int32.toNatClampNeg (x3 + 2))), .int (sc.2 (Int32.toNatClampNeg (x3 + 1))), .ref 42, .int v27]) (M2 := M26) rfl ⟨hp.1, hp.2.1, hp.2.2⟩ ?_
      refine gv_vcall (M' := m_X11_part) (o := 42) (ci := 11) (As := [.int (sc.2 (Int32.toNatClampNeg (x3 + 1))), .int (sc.2 (Int32.toNatClampNeg (x3 + 2))), .int (sc.2 (Int32.toNatClampNeg (x3 + 3)))]) (st := [.int v27]) (gl_dec ok_L_law 112 269 (.invokevirtual 36) 3 rfl) (gl_lnk ok_L_law 112 rfl rfl) mw_X11_part iw_X11_part lw_X11_part ⟨by decide, by decide⟩ rfl rfl rfl ⟨rfl, Nat.le_of_ble_eq_true rfl⟩ h (fun r28 M29 hq => ?_)
      obtain ⟨v30, rfl, h⟩ := hq
      change gv l sc m_L_law 272 [.long 0, .ref 0, .ref 42, .int x3] [.int v30, .int v27] M29 Q
      refine gv_icmp_eq (t := 790) (by decide) (gl_dec ok_L_law 113 272 (.if_icmp .eq 518) 3 rfl) (fun c => ?_) (fun c => ?_)
      · replace h := h.1 c
        refine gv_seg ok_L_law 503 1 (Ps := []) (pc' := 793) (ls' := [.long 0, .ref 0, .ref 42, .int (x3 + 4)]) (st' := []) (M2 := M29) rfl trivial ?_
        refine gv_goto (t := 18) (by decide) (gl_dec ok_L_law 504 793 (.goto (-775)) 3 rfl) ?_
        exact h
      · replace h := h.2 c
        refine gv_seg ok_L_law 114 1 (Ps := []) (pc' := 276) (ls' := [.long 0, .ref 0, .ref 42, .int x3]) (st' := [.int 0]) (M2 := M29) rfl trivial ?_
        exact gv_retZ (gl_dec ok_L_law 115 276 (.ireturn) 1 rfl) rfl (by decide) h
    by_cases c5 : ((sc.2 (Int32.toNatClampNeg x3)) &&& 31) = 5
    · replace h := h.2.2.2.2.2.1 c5
      refine gv_table hd (by rw [c5]; decide) (by rw [c5]; decide) (off := 245) (t := 277) (by rw [c5]; rfl) (by decide) ?_
      obtain ⟨hp, h⟩ := h
      refine gv_seg ok_L_law 116 6 (Ps := [vp_in (x3 + 1) sc.1]) (pc' := 283) (ls' := [.long 0, .ref 0, .ref 42, .int x3]) (st' := [.int (sc.2 (Int32.toNatClampNeg (x3 + 1))), .ref 0]) (M2 := M) rfl hp ?_
      refine gv_vcall (M' := m_X10_plays) (o := 0) (ci := 10) (As := [.int (sc.2 (Int32.toNatClampNeg (x3 + 1)))]) (st := []) (gl_dec ok_L_law 122 283 (.invokevirtual 37) 3 rfl) (gl_lnk ok_L_law 122 rfl rfl) mw_X10_plays iw_X10_plays lw_X10_plays ⟨by decide, by decide⟩ rfl rfl rfl ⟨rfl, Nat.le_of_ble_eq_true rfl⟩ h (fun r31 M32 hq => ?_)
      obtain ⟨v33, rfl, h⟩ := hq
      change gv l sc m_L_law 286 [.long 0, .ref 0, .ref 42, .int x3] [.int v33] M32 Q
      obtain ⟨hp, h⟩ := h
      refine gv_seg ok_L_law 123 6 (Ps := [vp_in (x3 + 1) sc.1]) (pc' := 292) (ls' := [.long 0, .ref 0, .ref 42, .int x3]) (st' := [.int (sc.2 (Int32.toNatClampNeg (x3 + 1))), .ref 42, .int v33]) (M2 := M32) rfl hp ?_
      refine gv_vcall (M' := m_X11_plays) (o := 42) (ci := 11) (As := [.int (sc.2 (Int32.toNatClampNeg (x3 + 1)))]) (st := [.int v33]) (gl_dec ok_L_law 129 292 (.invokevirtual 40) 3 rfl) (gl_lnk ok_L_law 129 rfl rfl) mw_X11_plays iw_X11_plays lw_X11_plays ⟨by decide, by decide⟩ rfl rfl rfl ⟨rfl, Nat.le_of_ble_eq_true rfl⟩ h (fun r34 M35 hq => ?_)
      obtain ⟨v36, rfl, h⟩ := hq
      change gv l sc m_L_law 295 [.long 0, .ref 0, .ref 42, .int x3] [.int v36, .int v33] M35 Q
      refine gv_icmp_eq (t := 790) (by decide) (gl_dec ok_L_law 130 295 (.if_icmp .eq 495) 3 rfl) (fun c => ?_) (fun c => ?_)
      · replace h := h.1 c
        refine gv_seg ok_L_law 503 1 (Ps := []) (pc' := 793) (ls' := [.long 0, .ref 0, .ref 42, .int (x3 + 4)]) (st' := []) (M2 := M35) rfl trivial ?_
        refine gv_goto (t := 18) (by decide) (gl_dec ok_L_law 504 793 (.goto (-775)) 3 rfl) ?_
        exact h
      · replace h := h.2 c
        refine gv_seg ok_L_law 131 1 (Ps := []) (pc' := 299) (ls' := [.long 0, .ref 0, .ref 42, .int x3]) (st' := [.int 0]) (M2 := M35) rfl trivial ?_
        exact gv_retZ (gl_dec ok_L_law 132 299 (.ireturn) 1 rfl) rfl (by decide) h
    by_cases c6 : ((sc.2 (Int32.toNatClampNeg x3)) &&& 31) = 6
    · replace h := h.2.2.2.2.2.2.1 c6
      refine gv_table hd (by rw [c6]; decide) (by rw [c6]; decide) (off := 268) (t := 300) (by rw [c6]; rfl) (by decide) ?_
      refine gv_seg ok_L_law 133 1 (Ps := []) (pc' := 301) (ls' := [.long 0, .ref 0, .ref 42, .int x3]) (st' := [.ref 0]) (M2 := M) rfl trivial ?_
      refine gv_vcall (M' := m_X10_cuts) (o := 0) (ci := 10) (As := []) (st := []) (gl_dec ok_L_law 134 301 (.invokevirtual 41) 3 rfl) (gl_lnk ok_L_law 134 rfl rfl) mw_X10_cuts iw_X10_cuts lw_X10_cuts ⟨by decide, by decide⟩ rfl rfl rfl ⟨rfl, Nat.le_of_ble_eq_true rfl⟩ h (fun r37 M38 hq => ?_)
      obtain ⟨v39, rfl, h⟩ := hq
      change gv l sc m_L_law 304 [.long 0, .ref 0, .ref 42, .int x3] [.int v39] M38 Q
      refine gv_seg ok_L_law 135 1 (Ps := []) (pc' := 305) (ls' := [.long 0, .ref 0, .ref 42, .int x3]) (st' := [.ref 42, .int v39]) (M2 := M38) rfl trivial ?_
      refine gv_vcall (M' := m_X11_cuts) (o := 42) (ci := 11) (As := []) (st := [.int v39]) (gl_dec ok_L_law 136 305 (.invokevirtual 44) 3 rfl) (gl_lnk ok_L_law 136 rfl rfl) mw_X11_cuts iw_X11_cuts lw_X11_cuts ⟨by decide, by decide⟩ rfl rfl rfl ⟨rfl, Nat.le_of_ble_eq_true rfl⟩ h (fun r40 M41 hq => ?_)
      obtain ⟨v42, rfl, h⟩ := hq
      change gv l sc m_L_law 308 [.long 0, .ref 0, .ref 42, .int x3] [.int v42, .int v39] M41 Q
      refine gv_icmp_eq (t := 790) (by decide) (gl_dec ok_L_law 137 308 (.if_icmp .eq 482) 3 rfl) (fun c => ?_) (fun c => ?_)
      · replace h := h.1 c
        refine gv_seg ok_L_law 503 1 (Ps := []) (pc' := 793) (ls' := [.long 0, .ref 0, .ref 42, .int (x3 + 4)]) (st' := []) (M2 := M41) rfl trivial ?_
        refine gv_goto (t := 18) (by decide) (gl_dec ok_L_law 504 793 (.goto (-775)) 3 rfl) ?_
        exact h
      · replace h := h.2 c
        refine gv_seg ok_L_law 138 1 (Ps := []) (pc' := 312) (ls' := [.long 0, .ref 0, .ref 42, .int x3]) (st' := [.int 0]) (M2 := M41) rfl trivial ?_
        exact gv_retZ (gl_dec ok_L_law 139 312 (.ireturn) 1 rfl) rfl (by decide) h
    by_cases c7 : ((sc.2 (Int32.toNatClampNeg x3)) &&& 31) = 7
    · replace h := h.2.2.2.2.2.2.2.1 c7
      refine gv_table hd (by rw [c7]; decide) (by rw [c7]; decide) (off := 281) (t := 313) (by rw [c7]; rfl) (by decide) ?_
      obtain ⟨hp, h⟩ := h
      refine gv_seg ok_L_law 140 11 (Ps := [vp_in (x3 + 1) sc.1, vp_in (x3 + 2) sc.1]) (pc' := 324) (ls' := [.long 0, .ref 0, .ref 42, .int x3]) (st' := [.int (sc.2 (Int32.toNatClampNeg (x3 + 2))), .int (sc.2 (Int32.toNatClampNeg (x3 + 1))), .ref 0]) (M2 := M) rfl ⟨hp.1, hp.2⟩ ?_
      refine gv_vcall (M' := m_X10_mends) (o := 0) (ci := 10) (As := [.int (sc.2 (Int32.toNatClampNeg (x3 + 1))), .int (sc.2 (Int32.toNatClampNeg (x3 + 2)))]) (st := []) (gl_dec ok_L_law 151 324 (.invokevirtual 45) 3 rfl) (gl_lnk ok_L_law 151 rfl rfl) mw_X10_mends iw_X10_mends lw_X10_mends ⟨by decide, by decide⟩ rfl rfl rfl ⟨rfl, Nat.le_of_ble_eq_true rfl⟩ h (fun r43 M44 hq => ?_)
      obtain ⟨v45, rfl, h⟩ := hq
      change gv l sc m_L_law 327 [.long 0, .ref 0, .ref 42, .int x3] [.int v45] M44 Q
      obtain ⟨hp, h⟩ := h
      refine gv_seg ok_L_law 152 11 (Ps := [vp_in (x3 + 1) sc.1, vp_in (x3 + 2) sc.1]) (pc' := 338) (ls' := [.long 0, .ref 0, .ref 42, .int x3]) (st' := [.int (sc.2 (Int32.toNatClampNeg (x3 + 2))), .int (sc.2 (Int32.toNatClampNeg (x3 + 1))), .ref 42, .int v45]) (M2 := M44) rfl ⟨hp.1, hp.2⟩ ?_
      refine gv_vcall (M' := m_X11_mends) (o := 42) (ci := 11) (As := [.int (sc.2 (Int32.toNatClampNeg (x3 + 1))), .int (sc.2 (Int32.toNatClampNeg (x3 + 2)))]) (st := [.int v45]) (gl_dec ok_L_law 163 338 (.invokevirtual 48) 3 rfl) (gl_lnk ok_L_law 163 rfl rfl) mw_X11_mends iw_X11_mends lw_X11_mends ⟨by decide, by decide⟩ rfl rfl rfl ⟨rfl, Nat.le_of_ble_eq_true rfl⟩ h (fun r46 M47 hq => ?_)
      obtain ⟨v48, rfl, h⟩ := hq
      change gv l sc m_L_law 341 [.long 0, .ref 0, .ref 42, .int x3] [.int v48, .int v45] M47 Q
      refine gv_icmp_eq (t := 790) (by decide) (gl_dec ok_L_law 164 341 (.if_icmp .eq 449) 3 rfl) (fun c => ?_) (fun c => ?_)
      · replace h := h.1 c
        refine gv_seg ok_L_law 503 1 (Ps := []) (pc' := 793) (ls' := [.long 0, .ref 0, .ref 42, .int (x3 + 4)]) (st' := []) (M2 := M47) rfl trivial ?_
        refine gv_goto (t := 18) (by decide) (gl_dec ok_L_law 504 793 (.goto (-775)) 3 rfl) ?_
        exact h
      · replace h := h.2 c
        refine gv_seg ok_L_law 165 1 (Ps := []) (pc' := 345) (ls' := [.long 0, .ref 0, .ref 42, .int x3]) (st' := [.int 0]) (M2 := M47) rfl trivial ?_
        exact gv_retZ (gl_dec ok_L_law 166 345 (.ireturn) 1 rfl) rfl (by decide) h
    by_cases c8 : ((sc.2 (Int32.toNatClampNeg x3)) &&& 31) = 8
    · replace h := h.2.2.2.2.2.2.2.2.1 c8
      refine gv_table hd (by rw [c8]; decide) (by rw [c8]; decide) (off := 314) (t := 346) (by rw [c8]; rfl) (by decide) ?_
      obtain ⟨hp, h⟩ := h
      refine gv_seg ok_L_law 167 6 (Ps := [vp_in (x3 + 1) sc.1]) (pc' := 352) (ls' := [.long 0, .ref 0, .ref 42, .int x3]) (st' := [.int (sc.2 (Int32.toNatClampNeg (x3 + 1))), .ref 0]) (M2 := M) rfl hp ?_
      refine gv_vcall (M' := m_X10_moves) (o := 0) (ci := 10) (As := [.int (sc.2 (Int32.toNatClampNeg (x3 + 1)))]) (st := []) (gl_dec ok_L_law 173 352 (.invokevirtual 49) 3 rfl) (gl_lnk ok_L_law 173 rfl rfl) mw_X10_moves iw_X10_moves lw_X10_moves ⟨by decide, by decide⟩ rfl rfl rfl ⟨rfl, Nat.le_of_ble_eq_true rfl⟩ h (fun r49 M50 hq => ?_)
      obtain ⟨v51, rfl, h⟩ := hq
      change gv l sc m_L_law 355 [.long 0, .ref 0, .ref 42, .int x3] [.int v51] M50 Q
      obtain ⟨hp, h⟩ := h
      refine gv_seg ok_L_law 174 6 (Ps := [vp_in (x3 + 1) sc.1]) (pc' := 361) (ls' := [.long 0, .ref 0, .ref 42, .int x3]) (st' := [.int (sc.2 (Int32.toNatClampNeg (x3 + 1))), .ref 42, .int v51]) (M2 := M50) rfl hp ?_
      refine gv_vcall (M' := m_X11_moves) (o := 42) (ci := 11) (As := [.int (sc.2 (Int32.toNatClampNeg (x3 + 1)))]) (st := [.int v51]) (gl_dec ok_L_law 180 361 (.invokevirtual 52) 3 rfl) (gl_lnk ok_L_law 180 rfl rfl) mw_X11_moves iw_X11_moves lw_X11_moves ⟨by decide, by decide⟩ rfl rfl rfl ⟨rfl, Nat.le_of_ble_eq_true rfl⟩ h (fun r52 M53 hq => ?_)
      obtain ⟨v54, rfl, h⟩ := hq
      change gv l sc m_L_law 364 [.long 0, .ref 0, .ref 42, .int x3] [.int v54, .int v51] M53 Q
      refine gv_icmp_eq (t := 790) (by decide) (gl_dec ok_L_law 181 364 (.if_icmp .eq 426) 3 rfl) (fun c => ?_) (fun c => ?_)
      · replace h := h.1 c
        refine gv_seg ok_L_law 503 1 (Ps := []) (pc' := 793) (ls' := [.long 0, .ref 0, .ref 42, .int (x3 + 4)]) (st' := []) (M2 := M53) rfl trivial ?_
        refine gv_goto (t := 18) (by decide) (gl_dec ok_L_law 504 793 (.goto (-775)) 3 rfl) ?_
        exact h
      · replace h := h.2 c
        refine gv_seg ok_L_law 182 1 (Ps := []) (pc' := 368) (ls' := [.long 0, .ref 0, .ref 42, .int x3]) (st' := [.int 0]) (M2 := M53) rfl trivial ?_
        exact gv_retZ (gl_dec ok_L_law 183 368 (.ireturn) 1 rfl) rfl (by decide) h
    by_cases c9 : ((sc.2 (Int32.toNatClampNeg x3)) &&& 31) = 9
    · replace h := h.2.2.2.2.2.2.2.2.2.1 c9
      refine gv_table hd (by rw [c9]; decide) (by rw [c9]; decide) (off := 337) (t := 369) (by rw [c9]; rfl) (by decide) ?_
      refine gv_seg ok_L_law 184 1 (Ps := []) (pc' := 370) (ls' := [.long 0, .ref 0, .ref 42, .int x3]) (st' := [.ref 0]) (M2 := M) rfl trivial ?_
      refine gv_vcall (M' := m_X10_undo) (o := 0) (ci := 10) (As := []) (st := []) (gl_dec ok_L_law 185 370 (.invokevirtual 53) 3 rfl) (gl_lnk ok_L_law 185 rfl rfl) mw_X10_undo iw_X10_undo lw_X10_undo ⟨by decide, by decide⟩ rfl rfl rfl ⟨rfl, Nat.le_of_ble_eq_true rfl⟩ h (fun r55 M56 hq => ?_)
      obtain ⟨v57, rfl, h⟩ := hq
      change gv l sc m_L_law 373 [.long 0, .ref 0, .ref 42, .int x3] [.int v57] M56 Q
      refine gv_seg ok_L_law 186 1 (Ps := []) (pc' := 374) (ls' := [.long 0, .ref 0, .ref 42, .int x3]) (st' := [.ref 42, .int v57]) (M2 := M56) rfl trivial ?_
      refine gv_vcall (M' := m_X11_undo) (o := 42) (ci := 11) (As := []) (st := [.int v57]) (gl_dec ok_L_law 187 374 (.invokevirtual 56) 3 rfl) (gl_lnk ok_L_law 187 rfl rfl) mw_X11_undo iw_X11_undo lw_X11_undo ⟨by decide, by decide⟩ rfl rfl rfl ⟨rfl, Nat.le_of_ble_eq_true rfl⟩ h (fun r58 M59 hq => ?_)
      obtain ⟨v60, rfl, h⟩ := hq
      change gv l sc m_L_law 377 [.long 0, .ref 0, .ref 42, .int x3] [.int v60, .int v57] M59 Q
      refine gv_icmp_eq (t := 790) (by decide) (gl_dec ok_L_law 188 377 (.if_icmp .eq 413) 3 rfl) (fun c => ?_) (fun c => ?_)
      · replace h := h.1 c
        refine gv_seg ok_L_law 503 1 (Ps := []) (pc' := 793) (ls' := [.long 0, .ref 0, .ref 42, .int (x3 + 4)]) (st' := []) (M2 := M59) rfl trivial ?_
        refine gv_goto (t := 18) (by decide) (gl_dec ok_L_law 504 793 (.goto (-775)) 3 rfl) ?_
        exact h
      · replace h := h.2 c
        refine gv_seg ok_L_law 189 1 (Ps := []) (pc' := 381) (ls' := [.long 0, .ref 0, .ref 42, .int x3]) (st' := [.int 0]) (M2 := M59) rfl trivial ?_
        exact gv_retZ (gl_dec ok_L_law 190 381 (.ireturn) 1 rfl) rfl (by decide) h
    by_cases c10 : ((sc.2 (Int32.toNatClampNeg x3)) &&& 31) = 10
    · replace h := h.2.2.2.2.2.2.2.2.2.2.1 c10
      refine gv_table hd (by rw [c10]; decide) (by rw [c10]; decide) (off := 350) (t := 382) (by rw [c10]; rfl) (by decide) ?_
      obtain ⟨hp, h⟩ := h
      refine gv_seg ok_L_law 191 6 (Ps := [vp_in (x3 + 1) sc.1]) (pc' := 388) (ls' := [.long 0, .ref 0, .ref 42, .int x3]) (st' := [.int (sc.2 (Int32.toNatClampNeg (x3 + 1))), .ref 0]) (M2 := M) rfl hp ?_
      refine gv_vcall (M' := m_X10_note) (o := 0) (ci := 10) (As := [.int (sc.2 (Int32.toNatClampNeg (x3 + 1)))]) (st := []) (gl_dec ok_L_law 197 388 (.invokevirtual 57) 3 rfl) (gl_lnk ok_L_law 197 rfl rfl) mw_X10_note iw_X10_note lw_X10_note ⟨by decide, by decide⟩ rfl rfl rfl ⟨rfl, Nat.le_of_ble_eq_true rfl⟩ h (fun r61 M62 hq => ?_)
      obtain ⟨v63, rfl, h⟩ := hq
      change gv l sc m_L_law 391 [.long 0, .ref 0, .ref 42, .int x3] [.int v63] M62 Q
      obtain ⟨hp, h⟩ := h
      refine gv_seg ok_L_law 198 6 (Ps := [vp_in (x3 + 1) sc.1]) (pc' := 397) (ls' := [.long 0, .ref 0, .ref 42, .int x3]) (st' := [.int (sc.2 (Int32.toNatClampNeg (x3 + 1))), .ref 42, .int v63]) (M2 := M62) rfl hp ?_
      refine gv_vcall (M' := m_X11_note) (o := 42) (ci := 11) (As := [.int (sc.2 (Int32.toNatClampNeg (x3 + 1)))]) (st := [.int v63]) (gl_dec ok_L_law 204 397 (.invokevirtual 60) 3 rfl) (gl_lnk ok_L_law 204 rfl rfl) mw_X11_note iw_X11_note lw_X11_note ⟨by decide, by decide⟩ rfl rfl rfl ⟨rfl, Nat.le_of_ble_eq_true rfl⟩ h (fun r64 M65 hq => ?_)
      obtain ⟨v66, rfl, h⟩ := hq
      change gv l sc m_L_law 400 [.long 0, .ref 0, .ref 42, .int x3] [.int v66, .int v63] M65 Q
      refine gv_icmp_eq (t := 790) (by decide) (gl_dec ok_L_law 205 400 (.if_icmp .eq 390) 3 rfl) (fun c => ?_) (fun c => ?_)
      · replace h := h.1 c
        refine gv_seg ok_L_law 503 1 (Ps := []) (pc' := 793) (ls' := [.long 0, .ref 0, .ref 42, .int (x3 + 4)]) (st' := []) (M2 := M65) rfl trivial ?_
        refine gv_goto (t := 18) (by decide) (gl_dec ok_L_law 504 793 (.goto (-775)) 3 rfl) ?_
        exact h
      · replace h := h.2 c
        refine gv_seg ok_L_law 206 1 (Ps := []) (pc' := 404) (ls' := [.long 0, .ref 0, .ref 42, .int x3]) (st' := [.int 0]) (M2 := M65) rfl trivial ?_
        exact gv_retZ (gl_dec ok_L_law 207 404 (.ireturn) 1 rfl) rfl (by decide) h
    by_cases c11 : ((sc.2 (Int32.toNatClampNeg x3)) &&& 31) = 11
    · replace h := h.2.2.2.2.2.2.2.2.2.2.2.1 c11
      refine gv_table hd (by rw [c11]; decide) (by rw [c11]; decide) (off := 373) (t := 405) (by rw [c11]; rfl) (by decide) ?_
      obtain ⟨hp, h⟩ := h
      refine gv_seg ok_L_law 208 11 (Ps := [vp_in (x3 + 1) sc.1, vp_in (x3 + 2) sc.1]) (pc' := 416) (ls' := [.long 0, .ref 0, .ref 42, .int x3]) (st' := [.int (sc.2 (Int32.toNatClampNeg (x3 + 2))), .int (sc.2 (Int32.toNatClampNeg (x3 + 1))), .ref 0]) (M2 := M) rfl ⟨hp.1, hp.2⟩ ?_
      refine gv_vcall (M' := m_X10_has) (o := 0) (ci := 10) (As := [.int (sc.2 (Int32.toNatClampNeg (x3 + 1))), .int (sc.2 (Int32.toNatClampNeg (x3 + 2)))]) (st := []) (gl_dec ok_L_law 219 416 (.invokevirtual 61) 3 rfl) (gl_lnk ok_L_law 219 rfl rfl) mw_X10_has iw_X10_has lw_X10_has ⟨by decide, by decide⟩ rfl rfl rfl ⟨rfl, Nat.le_of_ble_eq_true rfl⟩ h (fun r67 M68 hq => ?_)
      obtain ⟨v69, rfl, h⟩ := hq
      change gv l sc m_L_law 419 [.long 0, .ref 0, .ref 42, .int x3] [.int v69] M68 Q
      obtain ⟨hp, h⟩ := h
      refine gv_seg ok_L_law 220 11 (Ps := [vp_in (x3 + 1) sc.1, vp_in (x3 + 2) sc.1]) (pc' := 430) (ls' := [.long 0, .ref 0, .ref 42, .int x3]) (st' := [.int (sc.2 (Int32.toNatClampNeg (x3 + 2))), .int (sc.2 (Int32.toNatClampNeg (x3 + 1))), .ref 42, .int v69]) (M2 := M68) rfl ⟨hp.1, hp.2⟩ ?_
      refine gv_vcall (M' := m_X11_has) (o := 42) (ci := 11) (As := [.int (sc.2 (Int32.toNatClampNeg (x3 + 1))), .int (sc.2 (Int32.toNatClampNeg (x3 + 2)))]) (st := [.int v69]) (gl_dec ok_L_law 231 430 (.invokevirtual 64) 3 rfl) (gl_lnk ok_L_law 231 rfl rfl) mw_X11_has iw_X11_has lw_X11_has ⟨by decide, by decide⟩ rfl rfl rfl ⟨rfl, Nat.le_of_ble_eq_true rfl⟩ h (fun r70 M71 hq => ?_)
      obtain ⟨v72, rfl, h⟩ := hq
      change gv l sc m_L_law 433 [.long 0, .ref 0, .ref 42, .int x3] [.int v72, .int v69] M71 Q
      refine gv_icmp_eq (t := 790) (by decide) (gl_dec ok_L_law 232 433 (.if_icmp .eq 357) 3 rfl) (fun c => ?_) (fun c => ?_)
      · replace h := h.1 c
        refine gv_seg ok_L_law 503 1 (Ps := []) (pc' := 793) (ls' := [.long 0, .ref 0, .ref 42, .int (x3 + 4)]) (st' := []) (M2 := M71) rfl trivial ?_
        refine gv_goto (t := 18) (by decide) (gl_dec ok_L_law 504 793 (.goto (-775)) 3 rfl) ?_
        exact h
      · replace h := h.2 c
        refine gv_seg ok_L_law 233 1 (Ps := []) (pc' := 437) (ls' := [.long 0, .ref 0, .ref 42, .int x3]) (st' := [.int 0]) (M2 := M71) rfl trivial ?_
        exact gv_retZ (gl_dec ok_L_law 234 437 (.ireturn) 1 rfl) rfl (by decide) h
    by_cases c12 : ((sc.2 (Int32.toNatClampNeg x3)) &&& 31) = 12
    · replace h := h.2.2.2.2.2.2.2.2.2.2.2.2.1 c12
      refine gv_table hd (by rw [c12]; decide) (by rw [c12]; decide) (off := 406) (t := 438) (by rw [c12]; rfl) (by decide) ?_
      obtain ⟨hp, h⟩ := h
      refine gv_seg ok_L_law 235 16 (Ps := [vp_in (x3 + 1) sc.1, vp_in (x3 + 2) sc.1, vp_in (x3 + 3) sc.1]) (pc' := 454) (ls' := [.long 0, .ref 0, .ref 42, .int x3]) (st' := [.int (sc.2 (Int32.toNatClampNeg (x3 + 3))), .int (sc.2 (Int32.toNatClampNeg (x3 + 2))), .int (sc.2 (Int32.toNatClampNeg (x3 + 1))), .ref 0]) (M2 := M) rfl ⟨hp.1, hp.2.1, hp.2.2⟩ ?_
      refine gv_vcall (M' := m_X10_shares) (o := 0) (ci := 10) (As := [.int (sc.2 (Int32.toNatClampNeg (x3 + 1))), .int (sc.2 (Int32.toNatClampNeg (x3 + 2))), .int (sc.2 (Int32.toNatClampNeg (x3 + 3)))]) (st := []) (gl_dec ok_L_law 251 454 (.invokevirtual 65) 3 rfl) (gl_lnk ok_L_law 251 rfl rfl) mw_X10_shares iw_X10_shares lw_X10_shares ⟨by decide, by decide⟩ rfl rfl rfl ⟨rfl, Nat.le_of_ble_eq_true rfl⟩ h (fun r73 M74 hq => ?_)
      obtain ⟨v75, rfl, h⟩ := hq
      change gv l sc m_L_law 457 [.long 0, .ref 0, .ref 42, .int x3] [.int v75] M74 Q
      obtain ⟨hp, h⟩ := h
      refine gv_seg ok_L_law 252 16 (Ps := [vp_in (x3 + 1) sc.1, vp_in (x3 + 2) sc.1, vp_in (x3 + 3) sc.1]) (pc' := 473) (ls' := [.long 0, .ref 0, .ref 42, .int x3]) (st' := [.int (sc.2 (Int32.toNatClampNeg (x3 + 3))), .int (sc.2 (Int32.toNatClampNeg (x3 + 2))), .int (sc.2 (Int32.toNatClampNeg (x3 + 1))), .ref 42, .int v75]) (M2 := M74) rfl ⟨hp.1, hp.2.1, hp.2.2⟩ ?_
      refine gv_vcall (M' := m_X11_shares) (o := 42) (ci := 11) (As := [.int (sc.2 (Int32.toNatClampNeg (x3 + 1))), .int (sc.2 (Int32.toNatClampNeg (x3 + 2))), .int (sc.2 (Int32.toNatClampNeg (x3 + 3)))]) (st := [.int v75]) (gl_dec ok_L_law 268 473 (.invokevirtual 68) 3 rfl) (gl_lnk ok_L_law 268 rfl rfl) mw_X11_shares iw_X11_shares lw_X11_shares ⟨by decide, by decide⟩ rfl rfl rfl ⟨rfl, Nat.le_of_ble_eq_true rfl⟩ h (fun r76 M77 hq => ?_)
      obtain ⟨v78, rfl, h⟩ := hq
      change gv l sc m_L_law 476 [.long 0, .ref 0, .ref 42, .int x3] [.int v78, .int v75] M77 Q
      refine gv_icmp_eq (t := 790) (by decide) (gl_dec ok_L_law 269 476 (.if_icmp .eq 314) 3 rfl) (fun c => ?_) (fun c => ?_)
      · replace h := h.1 c
        refine gv_seg ok_L_law 503 1 (Ps := []) (pc' := 793) (ls' := [.long 0, .ref 0, .ref 42, .int (x3 + 4)]) (st' := []) (M2 := M77) rfl trivial ?_
        refine gv_goto (t := 18) (by decide) (gl_dec ok_L_law 504 793 (.goto (-775)) 3 rfl) ?_
        exact h
      · replace h := h.2 c
        refine gv_seg ok_L_law 270 1 (Ps := []) (pc' := 480) (ls' := [.long 0, .ref 0, .ref 42, .int x3]) (st' := [.int 0]) (M2 := M77) rfl trivial ?_
        exact gv_retZ (gl_dec ok_L_law 271 480 (.ireturn) 1 rfl) rfl (by decide) h
    by_cases c13 : ((sc.2 (Int32.toNatClampNeg x3)) &&& 31) = 13
    · replace h := h.2.2.2.2.2.2.2.2.2.2.2.2.2.1 c13
      refine gv_table hd (by rw [c13]; decide) (by rw [c13]; decide) (off := 449) (t := 481) (by rw [c13]; rfl) (by decide) ?_
      obtain ⟨hp, h⟩ := h
      refine gv_seg ok_L_law 272 16 (Ps := [vp_in (x3 + 1) sc.1, vp_in (x3 + 2) sc.1, vp_in (x3 + 3) sc.1]) (pc' := 497) (ls' := [.long 0, .ref 0, .ref 42, .int x3]) (st' := [.int (sc.2 (Int32.toNatClampNeg (x3 + 3))), .int (sc.2 (Int32.toNatClampNeg (x3 + 2))), .int (sc.2 (Int32.toNatClampNeg (x3 + 1))), .ref 0]) (M2 := M) rfl ⟨hp.1, hp.2.1, hp.2.2⟩ ?_
      refine gv_vcall (M' := m_X10_way) (o := 0) (ci := 10) (As := [.int (sc.2 (Int32.toNatClampNeg (x3 + 1))), .int (sc.2 (Int32.toNatClampNeg (x3 + 2))), .int (sc.2 (Int32.toNatClampNeg (x3 + 3)))]) (st := []) (gl_dec ok_L_law 288 497 (.invokevirtual 69) 3 rfl) (gl_lnk ok_L_law 288 rfl rfl) mw_X10_way iw_X10_way lw_X10_way ⟨by decide, by decide⟩ rfl rfl rfl ⟨rfl, Nat.le_of_ble_eq_true rfl⟩ h (fun r79 M80 hq => ?_)
      obtain ⟨v81, rfl, h⟩ := hq
      change gv l sc m_L_law 500 [.long 0, .ref 0, .ref 42, .int x3] [.int v81] M80 Q
      obtain ⟨hp, h⟩ := h
      refine gv_seg ok_L_law 289 16 (Ps := [vp_in (x3 + 1) sc.1, vp_in (x3 + 2) sc.1, vp_in (x3 + 3) sc.1]) (pc' := 516) (ls' := [.long 0, .ref 0, .ref 42, .int x3]) (st' := [.int (sc.2 (Int32.toNatClampNeg (x3 + 3))), .int (sc.2 (Int32.toNatClampNeg (x3 + 2))), .int (sc.2 (Int32.toNatClampNeg (x3 + 1))), .ref 42, .int v81]) (M2 := M80) rfl ⟨hp.1, hp.2.1, hp.2.2⟩ ?_
      refine gv_vcall (M' := m_X11_way) (o := 42) (ci := 11) (As := [.int (sc.2 (Int32.toNatClampNeg (x3 + 1))), .int (sc.2 (Int32.toNatClampNeg (x3 + 2))), .int (sc.2 (Int32.toNatClampNeg (x3 + 3)))]) (st := [.int v81]) (gl_dec ok_L_law 305 516 (.invokevirtual 72) 3 rfl) (gl_lnk ok_L_law 305 rfl rfl) mw_X11_way iw_X11_way lw_X11_way ⟨by decide, by decide⟩ rfl rfl rfl ⟨rfl, Nat.le_of_ble_eq_true rfl⟩ h (fun r82 M83 hq => ?_)
      obtain ⟨v84, rfl, h⟩ := hq
      change gv l sc m_L_law 519 [.long 0, .ref 0, .ref 42, .int x3] [.int v84, .int v81] M83 Q
      refine gv_icmp_eq (t := 790) (by decide) (gl_dec ok_L_law 306 519 (.if_icmp .eq 271) 3 rfl) (fun c => ?_) (fun c => ?_)
      · replace h := h.1 c
        refine gv_seg ok_L_law 503 1 (Ps := []) (pc' := 793) (ls' := [.long 0, .ref 0, .ref 42, .int (x3 + 4)]) (st' := []) (M2 := M83) rfl trivial ?_
        refine gv_goto (t := 18) (by decide) (gl_dec ok_L_law 504 793 (.goto (-775)) 3 rfl) ?_
        exact h
      · replace h := h.2 c
        refine gv_seg ok_L_law 307 1 (Ps := []) (pc' := 523) (ls' := [.long 0, .ref 0, .ref 42, .int x3]) (st' := [.int 0]) (M2 := M83) rfl trivial ?_
        exact gv_retZ (gl_dec ok_L_law 308 523 (.ireturn) 1 rfl) rfl (by decide) h
    by_cases c14 : ((sc.2 (Int32.toNatClampNeg x3)) &&& 31) = 14
    · replace h := h.2.2.2.2.2.2.2.2.2.2.2.2.2.2.1 c14
      refine gv_table hd (by rw [c14]; decide) (by rw [c14]; decide) (off := 492) (t := 524) (by rw [c14]; rfl) (by decide) ?_
      obtain ⟨hp, h⟩ := h
      refine gv_seg ok_L_law 309 11 (Ps := [vp_in (x3 + 1) sc.1, vp_in (x3 + 2) sc.1]) (pc' := 535) (ls' := [.long 0, .ref 0, .ref 42, .int x3]) (st' := [.int (sc.2 (Int32.toNatClampNeg (x3 + 2))), .int (sc.2 (Int32.toNatClampNeg (x3 + 1))), .ref 0]) (M2 := M) rfl ⟨hp.1, hp.2⟩ ?_
      refine gv_vcall (M' := m_X10_farthest) (o := 0) (ci := 10) (As := [.int (sc.2 (Int32.toNatClampNeg (x3 + 1))), .int (sc.2 (Int32.toNatClampNeg (x3 + 2)))]) (st := []) (gl_dec ok_L_law 320 535 (.invokevirtual 73) 3 rfl) (gl_lnk ok_L_law 320 rfl rfl) mw_X10_farthest iw_X10_farthest lw_X10_farthest ⟨by decide, by decide⟩ rfl rfl rfl ⟨rfl, Nat.le_of_ble_eq_true rfl⟩ h (fun r85 M86 hq => ?_)
      obtain ⟨v87, rfl, h⟩ := hq
      change gv l sc m_L_law 538 [.long 0, .ref 0, .ref 42, .int x3] [.int v87] M86 Q
      obtain ⟨hp, h⟩ := h
      refine gv_seg ok_L_law 321 11 (Ps := [vp_in (x3 + 1) sc.1, vp_in (x3 + 2) sc.1]) (pc' := 549) (ls' := [.long 0, .ref 0, .ref 42, .int x3]) (st' := [.int (sc.2 (Int32.toNatClampNeg (x3 + 2))), .int (sc.2 (Int32.toNatClampNeg (x3 + 1))), .ref 42, .int v87]) (M2 := M86) rfl ⟨hp.1, hp.2⟩ ?_
      refine gv_vcall (M' := m_X11_farthest) (o := 42) (ci := 11) (As := [.int (sc.2 (Int32.toNatClampNeg (x3 + 1))), .int (sc.2 (Int32.toNatClampNeg (x3 + 2)))]) (st := [.int v87]) (gl_dec ok_L_law 332 549 (.invokevirtual 76) 3 rfl) (gl_lnk ok_L_law 332 rfl rfl) mw_X11_farthest iw_X11_farthest lw_X11_farthest ⟨by decide, by decide⟩ rfl rfl rfl ⟨rfl, Nat.le_of_ble_eq_true rfl⟩ h (fun r88 M89 hq => ?_)
      obtain ⟨v90, rfl, h⟩ := hq
      change gv l sc m_L_law 552 [.long 0, .ref 0, .ref 42, .int x3] [.int v90, .int v87] M89 Q
      refine gv_icmp_eq (t := 790) (by decide) (gl_dec ok_L_law 333 552 (.if_icmp .eq 238) 3 rfl) (fun c => ?_) (fun c => ?_)
      · replace h := h.1 c
        refine gv_seg ok_L_law 503 1 (Ps := []) (pc' := 793) (ls' := [.long 0, .ref 0, .ref 42, .int (x3 + 4)]) (st' := []) (M2 := M89) rfl trivial ?_
        refine gv_goto (t := 18) (by decide) (gl_dec ok_L_law 504 793 (.goto (-775)) 3 rfl) ?_
        exact h
      · replace h := h.2 c
        refine gv_seg ok_L_law 334 1 (Ps := []) (pc' := 556) (ls' := [.long 0, .ref 0, .ref 42, .int x3]) (st' := [.int 0]) (M2 := M89) rfl trivial ?_
        exact gv_retZ (gl_dec ok_L_law 335 556 (.ireturn) 1 rfl) rfl (by decide) h
    by_cases c15 : ((sc.2 (Int32.toNatClampNeg x3)) &&& 31) = 15
    · replace h := h.2.2.2.2.2.2.2.2.2.2.2.2.2.2.2.1 c15
      refine gv_table hd (by rw [c15]; decide) (by rw [c15]; decide) (off := 525) (t := 557) (by rw [c15]; rfl) (by decide) ?_
      obtain ⟨hp, h⟩ := h
      refine gv_seg ok_L_law 336 6 (Ps := [vp_in (x3 + 1) sc.1]) (pc' := 563) (ls' := [.long 0, .ref 0, .ref 42, .int x3]) (st' := [.int (sc.2 (Int32.toNatClampNeg (x3 + 1))), .ref 0]) (M2 := M) rfl hp ?_
      refine gv_vcall (M' := m_X10_parse) (o := 0) (ci := 10) (As := [.int (sc.2 (Int32.toNatClampNeg (x3 + 1)))]) (st := []) (gl_dec ok_L_law 342 563 (.invokevirtual 77) 3 rfl) (gl_lnk ok_L_law 342 rfl rfl) mw_X10_parse iw_X10_parse lw_X10_parse ⟨by decide, by decide⟩ rfl rfl rfl ⟨rfl, Nat.le_of_ble_eq_true rfl⟩ h (fun r91 M92 hq => ?_)
      obtain ⟨v93, rfl, h⟩ := hq
      change gv l sc m_L_law 566 [.long 0, .ref 0, .ref 42, .int x3] [.int v93] M92 Q
      obtain ⟨hp, h⟩ := h
      refine gv_seg ok_L_law 343 6 (Ps := [vp_in (x3 + 1) sc.1]) (pc' := 572) (ls' := [.long 0, .ref 0, .ref 42, .int x3]) (st' := [.int (sc.2 (Int32.toNatClampNeg (x3 + 1))), .ref 42, .int v93]) (M2 := M92) rfl hp ?_
      refine gv_vcall (M' := m_X11_parse) (o := 42) (ci := 11) (As := [.int (sc.2 (Int32.toNatClampNeg (x3 + 1)))]) (st := [.int v93]) (gl_dec ok_L_law 349 572 (.invokevirtual 80) 3 rfl) (gl_lnk ok_L_law 349 rfl rfl) mw_X11_parse iw_X11_parse lw_X11_parse ⟨by decide, by decide⟩ rfl rfl rfl ⟨rfl, Nat.le_of_ble_eq_true rfl⟩ h (fun r94 M95 hq => ?_)
      obtain ⟨v96, rfl, h⟩ := hq
      change gv l sc m_L_law 575 [.long 0, .ref 0, .ref 42, .int x3] [.int v96, .int v93] M95 Q
      refine gv_icmp_eq (t := 790) (by decide) (gl_dec ok_L_law 350 575 (.if_icmp .eq 215) 3 rfl) (fun c => ?_) (fun c => ?_)
      · replace h := h.1 c
        refine gv_seg ok_L_law 503 1 (Ps := []) (pc' := 793) (ls' := [.long 0, .ref 0, .ref 42, .int (x3 + 4)]) (st' := []) (M2 := M95) rfl trivial ?_
        refine gv_goto (t := 18) (by decide) (gl_dec ok_L_law 504 793 (.goto (-775)) 3 rfl) ?_
        exact h
      · replace h := h.2 c
        refine gv_seg ok_L_law 351 1 (Ps := []) (pc' := 579) (ls' := [.long 0, .ref 0, .ref 42, .int x3]) (st' := [.int 0]) (M2 := M95) rfl trivial ?_
        exact gv_retZ (gl_dec ok_L_law 352 579 (.ireturn) 1 rfl) rfl (by decide) h
    by_cases c16 : ((sc.2 (Int32.toNatClampNeg x3)) &&& 31) = 16
    · replace h := h.2.2.2.2.2.2.2.2.2.2.2.2.2.2.2.2.1 c16
      refine gv_table hd (by rw [c16]; decide) (by rw [c16]; decide) (off := 548) (t := 580) (by rw [c16]; rfl) (by decide) ?_
      obtain ⟨hp, h⟩ := h
      refine gv_seg ok_L_law 353 11 (Ps := [vp_in (x3 + 1) sc.1, vp_in (x3 + 2) sc.1]) (pc' := 591) (ls' := [.long 0, .ref 0, .ref 42, .int x3]) (st' := [.int (sc.2 (Int32.toNatClampNeg (x3 + 2))), .int (sc.2 (Int32.toNatClampNeg (x3 + 1))), .ref 0]) (M2 := M) rfl ⟨hp.1, hp.2⟩ ?_
      refine gv_vcall (M' := m_X10_parsed) (o := 0) (ci := 10) (As := [.int (sc.2 (Int32.toNatClampNeg (x3 + 1))), .int (sc.2 (Int32.toNatClampNeg (x3 + 2)))]) (st := []) (gl_dec ok_L_law 364 591 (.invokevirtual 81) 3 rfl) (gl_lnk ok_L_law 364 rfl rfl) mw_X10_parsed iw_X10_parsed lw_X10_parsed ⟨by decide, by decide⟩ rfl rfl rfl ⟨rfl, Nat.le_of_ble_eq_true rfl⟩ h (fun r97 M98 hq => ?_)
      obtain ⟨v99, rfl, h⟩ := hq
      change gv l sc m_L_law 594 [.long 0, .ref 0, .ref 42, .int x3] [.int v99] M98 Q
      obtain ⟨hp, h⟩ := h
      refine gv_seg ok_L_law 365 11 (Ps := [vp_in (x3 + 1) sc.1, vp_in (x3 + 2) sc.1]) (pc' := 605) (ls' := [.long 0, .ref 0, .ref 42, .int x3]) (st' := [.int (sc.2 (Int32.toNatClampNeg (x3 + 2))), .int (sc.2 (Int32.toNatClampNeg (x3 + 1))), .ref 42, .int v99]) (M2 := M98) rfl ⟨hp.1, hp.2⟩ ?_
      refine gv_vcall (M' := m_X11_parsed) (o := 42) (ci := 11) (As := [.int (sc.2 (Int32.toNatClampNeg (x3 + 1))), .int (sc.2 (Int32.toNatClampNeg (x3 + 2)))]) (st := [.int v99]) (gl_dec ok_L_law 376 605 (.invokevirtual 84) 3 rfl) (gl_lnk ok_L_law 376 rfl rfl) mw_X11_parsed iw_X11_parsed lw_X11_parsed ⟨by decide, by decide⟩ rfl rfl rfl ⟨rfl, Nat.le_of_ble_eq_true rfl⟩ h (fun r100 M101 hq => ?_)
      obtain ⟨v102, rfl, h⟩ := hq
      change gv l sc m_L_law 608 [.long 0, .ref 0, .ref 42, .int x3] [.int v102, .int v99] M101 Q
      refine gv_icmp_eq (t := 790) (by decide) (gl_dec ok_L_law 377 608 (.if_icmp .eq 182) 3 rfl) (fun c => ?_) (fun c => ?_)
      · replace h := h.1 c
        refine gv_seg ok_L_law 503 1 (Ps := []) (pc' := 793) (ls' := [.long 0, .ref 0, .ref 42, .int (x3 + 4)]) (st' := []) (M2 := M101) rfl trivial ?_
        refine gv_goto (t := 18) (by decide) (gl_dec ok_L_law 504 793 (.goto (-775)) 3 rfl) ?_
        exact h
      · replace h := h.2 c
        refine gv_seg ok_L_law 378 1 (Ps := []) (pc' := 612) (ls' := [.long 0, .ref 0, .ref 42, .int x3]) (st' := [.int 0]) (M2 := M101) rfl trivial ?_
        exact gv_retZ (gl_dec ok_L_law 379 612 (.ireturn) 1 rfl) rfl (by decide) h
    by_cases c17 : ((sc.2 (Int32.toNatClampNeg x3)) &&& 31) = 17
    · replace h := h.2.2.2.2.2.2.2.2.2.2.2.2.2.2.2.2.2.1 c17
      refine gv_table hd (by rw [c17]; decide) (by rw [c17]; decide) (off := 581) (t := 613) (by rw [c17]; rfl) (by decide) ?_
      refine gv_seg ok_L_law 380 1 (Ps := []) (pc' := 614) (ls' := [.long 0, .ref 0, .ref 42, .int x3]) (st' := [.ref 0]) (M2 := M) rfl trivial ?_
      refine gv_vcall (M' := m_X10_reach) (o := 0) (ci := 10) (As := []) (st := []) (gl_dec ok_L_law 381 614 (.invokevirtual 85) 3 rfl) (gl_lnk ok_L_law 381 rfl rfl) mw_X10_reach iw_X10_reach lw_X10_reach ⟨by decide, by decide⟩ rfl rfl rfl ⟨rfl, Nat.le_of_ble_eq_true rfl⟩ h (fun r103 M104 hq => ?_)
      obtain ⟨v105, rfl, h⟩ := hq
      change gv l sc m_L_law 617 [.long 0, .ref 0, .ref 42, .int x3] [.int v105] M104 Q
      refine gv_seg ok_L_law 382 1 (Ps := []) (pc' := 618) (ls' := [.long 0, .ref 0, .ref 42, .int x3]) (st' := [.ref 42, .int v105]) (M2 := M104) rfl trivial ?_
      refine gv_vcall (M' := m_X11_reach) (o := 42) (ci := 11) (As := []) (st := [.int v105]) (gl_dec ok_L_law 383 618 (.invokevirtual 88) 3 rfl) (gl_lnk ok_L_law 383 rfl rfl) mw_X11_reach iw_X11_reach lw_X11_reach ⟨by decide, by decide⟩ rfl rfl rfl ⟨rfl, Nat.le_of_ble_eq_true rfl⟩ h (fun r106 M107 hq => ?_)
      obtain ⟨v108, rfl, h⟩ := hq
      change gv l sc m_L_law 621 [.long 0, .ref 0, .ref 42, .int x3] [.int v108, .int v105] M107 Q
      refine gv_icmp_eq (t := 790) (by decide) (gl_dec ok_L_law 384 621 (.if_icmp .eq 169) 3 rfl) (fun c => ?_) (fun c => ?_)
      · replace h := h.1 c
        refine gv_seg ok_L_law 503 1 (Ps := []) (pc' := 793) (ls' := [.long 0, .ref 0, .ref 42, .int (x3 + 4)]) (st' := []) (M2 := M107) rfl trivial ?_
        refine gv_goto (t := 18) (by decide) (gl_dec ok_L_law 504 793 (.goto (-775)) 3 rfl) ?_
        exact h
      · replace h := h.2 c
        refine gv_seg ok_L_law 385 1 (Ps := []) (pc' := 625) (ls' := [.long 0, .ref 0, .ref 42, .int x3]) (st' := [.int 0]) (M2 := M107) rfl trivial ?_
        exact gv_retZ (gl_dec ok_L_law 386 625 (.ireturn) 1 rfl) rfl (by decide) h
    by_cases c18 : ((sc.2 (Int32.toNatClampNeg x3)) &&& 31) = 18
    · replace h := h.2.2.2.2.2.2.2.2.2.2.2.2.2.2.2.2.2.2.1 c18
      refine gv_table hd (by rw [c18]; decide) (by rw [c18]; decide) (off := 594) (t := 626) (by rw [c18]; rfl) (by decide) ?_
      obtain ⟨hp, h⟩ := h
      refine gv_seg ok_L_law 387 6 (Ps := [vp_in (x3 + 1) sc.1]) (pc' := 632) (ls' := [.long 0, .ref 0, .ref 42, .int x3]) (st' := [.int (sc.2 (Int32.toNatClampNeg (x3 + 1))), .ref 0]) (M2 := M) rfl hp ?_
      refine gv_vcall (M' := m_X10_fit) (o := 0) (ci := 10) (As := [.int (sc.2 (Int32.toNatClampNeg (x3 + 1)))]) (st := []) (gl_dec ok_L_law 393 632 (.invokevirtual 89) 3 rfl) (gl_lnk ok_L_law 393 rfl rfl) mw_X10_fit iw_X10_fit lw_X10_fit ⟨by decide, by decide⟩ rfl rfl rfl ⟨rfl, Nat.le_of_ble_eq_true rfl⟩ h (fun r109 M110 hq => ?_)
      obtain ⟨v111, rfl, h⟩ := hq
      change gv l sc m_L_law 635 [.long 0, .ref 0, .ref 42, .int x3] [.int v111] M110 Q
      obtain ⟨hp, h⟩ := h
      refine gv_seg ok_L_law 394 6 (Ps := [vp_in (x3 + 1) sc.1]) (pc' := 641) (ls' := [.long 0, .ref 0, .ref 42, .int x3]) (st' := [.int (sc.2 (Int32.toNatClampNeg (x3 + 1))), .ref 42, .int v111]) (M2 := M110) rfl hp ?_
      refine gv_vcall (M' := m_X11_fit) (o := 42) (ci := 11) (As := [.int (sc.2 (Int32.toNatClampNeg (x3 + 1)))]) (st := [.int v111]) (gl_dec ok_L_law 400 641 (.invokevirtual 92) 3 rfl) (gl_lnk ok_L_law 400 rfl rfl) mw_X11_fit iw_X11_fit lw_X11_fit ⟨by decide, by decide⟩ rfl rfl rfl ⟨rfl, Nat.le_of_ble_eq_true rfl⟩ h (fun r112 M113 hq => ?_)
      obtain ⟨v114, rfl, h⟩ := hq
      change gv l sc m_L_law 644 [.long 0, .ref 0, .ref 42, .int x3] [.int v114, .int v111] M113 Q
      refine gv_icmp_eq (t := 790) (by decide) (gl_dec ok_L_law 401 644 (.if_icmp .eq 146) 3 rfl) (fun c => ?_) (fun c => ?_)
      · replace h := h.1 c
        refine gv_seg ok_L_law 503 1 (Ps := []) (pc' := 793) (ls' := [.long 0, .ref 0, .ref 42, .int (x3 + 4)]) (st' := []) (M2 := M113) rfl trivial ?_
        refine gv_goto (t := 18) (by decide) (gl_dec ok_L_law 504 793 (.goto (-775)) 3 rfl) ?_
        exact h
      · replace h := h.2 c
        refine gv_seg ok_L_law 402 1 (Ps := []) (pc' := 648) (ls' := [.long 0, .ref 0, .ref 42, .int x3]) (st' := [.int 0]) (M2 := M113) rfl trivial ?_
        exact gv_retZ (gl_dec ok_L_law 403 648 (.ireturn) 1 rfl) rfl (by decide) h
    by_cases c19 : ((sc.2 (Int32.toNatClampNeg x3)) &&& 31) = 19
    · replace h := h.2.2.2.2.2.2.2.2.2.2.2.2.2.2.2.2.2.2.2.1 c19
      refine gv_table hd (by rw [c19]; decide) (by rw [c19]; decide) (off := 617) (t := 649) (by rw [c19]; rfl) (by decide) ?_
      refine gv_seg ok_L_law 404 1 (Ps := []) (pc' := 650) (ls' := [.long 0, .ref 0, .ref 42, .int x3]) (st' := [.ref 0]) (M2 := M) rfl trivial ?_
      refine gv_vcall (M' := m_X10_home) (o := 0) (ci := 10) (As := []) (st := []) (gl_dec ok_L_law 405 650 (.invokevirtual 93) 3 rfl) (gl_lnk ok_L_law 405 rfl rfl) mw_X10_home iw_X10_home lw_X10_home ⟨by decide, by decide⟩ rfl rfl rfl ⟨rfl, Nat.le_of_ble_eq_true rfl⟩ h (fun r115 M116 hq => ?_)
      obtain ⟨v117, rfl, h⟩ := hq
      change gv l sc m_L_law 653 [.long 0, .ref 0, .ref 42, .int x3] [.int v117] M116 Q
      refine gv_seg ok_L_law 406 1 (Ps := []) (pc' := 654) (ls' := [.long 0, .ref 0, .ref 42, .int x3]) (st' := [.ref 42, .int v117]) (M2 := M116) rfl trivial ?_
      refine gv_vcall (M' := m_X11_home) (o := 42) (ci := 11) (As := []) (st := [.int v117]) (gl_dec ok_L_law 407 654 (.invokevirtual 96) 3 rfl) (gl_lnk ok_L_law 407 rfl rfl) mw_X11_home iw_X11_home lw_X11_home ⟨by decide, by decide⟩ rfl rfl rfl ⟨rfl, Nat.le_of_ble_eq_true rfl⟩ h (fun r118 M119 hq => ?_)
      obtain ⟨v120, rfl, h⟩ := hq
      change gv l sc m_L_law 657 [.long 0, .ref 0, .ref 42, .int x3] [.int v120, .int v117] M119 Q
      refine gv_icmp_eq (t := 790) (by decide) (gl_dec ok_L_law 408 657 (.if_icmp .eq 133) 3 rfl) (fun c => ?_) (fun c => ?_)
      · replace h := h.1 c
        refine gv_seg ok_L_law 503 1 (Ps := []) (pc' := 793) (ls' := [.long 0, .ref 0, .ref 42, .int (x3 + 4)]) (st' := []) (M2 := M119) rfl trivial ?_
        refine gv_goto (t := 18) (by decide) (gl_dec ok_L_law 504 793 (.goto (-775)) 3 rfl) ?_
        exact h
      · replace h := h.2 c
        refine gv_seg ok_L_law 409 1 (Ps := []) (pc' := 661) (ls' := [.long 0, .ref 0, .ref 42, .int x3]) (st' := [.int 0]) (M2 := M119) rfl trivial ?_
        exact gv_retZ (gl_dec ok_L_law 410 661 (.ireturn) 1 rfl) rfl (by decide) h
    by_cases c20 : ((sc.2 (Int32.toNatClampNeg x3)) &&& 31) = 20
    · replace h := h.2.2.2.2.2.2.2.2.2.2.2.2.2.2.2.2.2.2.2.2.1 c20
      refine gv_table hd (by rw [c20]; decide) (by rw [c20]; decide) (off := 630) (t := 662) (by rw [c20]; rfl) (by decide) ?_
      obtain ⟨hp, h⟩ := h
      refine gv_seg ok_L_law 411 11 (Ps := [vp_in (x3 + 1) sc.1, vp_in (x3 + 2) sc.1]) (pc' := 673) (ls' := [.long 0, .ref 0, .ref 42, .int x3]) (st' := [.int (sc.2 (Int32.toNatClampNeg (x3 + 2))), .int (sc.2 (Int32.toNatClampNeg (x3 + 1))), .ref 0]) (M2 := M) rfl ⟨hp.1, hp.2⟩ ?_
      refine gv_vcall (M' := m_X10_sees) (o := 0) (ci := 10) (As := [.int (sc.2 (Int32.toNatClampNeg (x3 + 1))), .int (sc.2 (Int32.toNatClampNeg (x3 + 2)))]) (st := []) (gl_dec ok_L_law 422 673 (.invokevirtual 97) 3 rfl) (gl_lnk ok_L_law 422 rfl rfl) mw_X10_sees iw_X10_sees lw_X10_sees ⟨by decide, by decide⟩ rfl rfl rfl ⟨rfl, Nat.le_of_ble_eq_true rfl⟩ h (fun r121 M122 hq => ?_)
      obtain ⟨v123, rfl, h⟩ := hq
      change gv l sc m_L_law 676 [.long 0, .ref 0, .ref 42, .int x3] [.int v123] M122 Q
      obtain ⟨hp, h⟩ := h
      refine gv_seg ok_L_law 423 11 (Ps := [vp_in (x3 + 1) sc.1, vp_in (x3 + 2) sc.1]) (pc' := 687) (ls' := [.long 0, .ref 0, .ref 42, .int x3]) (st' := [.int (sc.2 (Int32.toNatClampNeg (x3 + 2))), .int (sc.2 (Int32.toNatClampNeg (x3 + 1))), .ref 42, .int v123]) (M2 := M122) rfl ⟨hp.1, hp.2⟩ ?_
      refine gv_vcall (M' := m_X11_sees) (o := 42) (ci := 11) (As := [.int (sc.2 (Int32.toNatClampNeg (x3 + 1))), .int (sc.2 (Int32.toNatClampNeg (x3 + 2)))]) (st := [.int v123]) (gl_dec ok_L_law 434 687 (.invokevirtual 100) 3 rfl) (gl_lnk ok_L_law 434 rfl rfl) mw_X11_sees iw_X11_sees lw_X11_sees ⟨by decide, by decide⟩ rfl rfl rfl ⟨rfl, Nat.le_of_ble_eq_true rfl⟩ h (fun r124 M125 hq => ?_)
      obtain ⟨v126, rfl, h⟩ := hq
      change gv l sc m_L_law 690 [.long 0, .ref 0, .ref 42, .int x3] [.int v126, .int v123] M125 Q
      refine gv_icmp_eq (t := 790) (by decide) (gl_dec ok_L_law 435 690 (.if_icmp .eq 100) 3 rfl) (fun c => ?_) (fun c => ?_)
      · replace h := h.1 c
        refine gv_seg ok_L_law 503 1 (Ps := []) (pc' := 793) (ls' := [.long 0, .ref 0, .ref 42, .int (x3 + 4)]) (st' := []) (M2 := M125) rfl trivial ?_
        refine gv_goto (t := 18) (by decide) (gl_dec ok_L_law 504 793 (.goto (-775)) 3 rfl) ?_
        exact h
      · replace h := h.2 c
        refine gv_seg ok_L_law 436 1 (Ps := []) (pc' := 694) (ls' := [.long 0, .ref 0, .ref 42, .int x3]) (st' := [.int 0]) (M2 := M125) rfl trivial ?_
        exact gv_retZ (gl_dec ok_L_law 437 694 (.ireturn) 1 rfl) rfl (by decide) h
    by_cases c21 : ((sc.2 (Int32.toNatClampNeg x3)) &&& 31) = 21
    · replace h := h.2.2.2.2.2.2.2.2.2.2.2.2.2.2.2.2.2.2.2.2.2.1 c21
      refine gv_table hd (by rw [c21]; decide) (by rw [c21]; decide) (off := 663) (t := 695) (by rw [c21]; rfl) (by decide) ?_
      refine gv_seg ok_L_law 438 1 (Ps := []) (pc' := 696) (ls' := [.long 0, .ref 0, .ref 42, .int x3]) (st' := [.ref 0]) (M2 := M) rfl trivial ?_
      refine gv_vcall (M' := m_X10_forget) (o := 0) (ci := 10) (As := []) (st := []) (gl_dec ok_L_law 439 696 (.invokevirtual 101) 3 rfl) (gl_lnk ok_L_law 439 rfl rfl) mw_X10_forget iw_X10_forget lw_X10_forget ⟨by decide, by decide⟩ rfl rfl rfl ⟨rfl, Nat.le_of_ble_eq_true rfl⟩ h (fun r127 M128 hq => ?_)
      obtain ⟨v129, rfl, h⟩ := hq
      change gv l sc m_L_law 699 [.long 0, .ref 0, .ref 42, .int x3] [.int v129] M128 Q
      refine gv_seg ok_L_law 440 1 (Ps := []) (pc' := 700) (ls' := [.long 0, .ref 0, .ref 42, .int x3]) (st' := [.ref 42, .int v129]) (M2 := M128) rfl trivial ?_
      refine gv_vcall (M' := m_X11_forget) (o := 42) (ci := 11) (As := []) (st := [.int v129]) (gl_dec ok_L_law 441 700 (.invokevirtual 104) 3 rfl) (gl_lnk ok_L_law 441 rfl rfl) mw_X11_forget iw_X11_forget lw_X11_forget ⟨by decide, by decide⟩ rfl rfl rfl ⟨rfl, Nat.le_of_ble_eq_true rfl⟩ h (fun r130 M131 hq => ?_)
      obtain ⟨v132, rfl, h⟩ := hq
      change gv l sc m_L_law 703 [.long 0, .ref 0, .ref 42, .int x3] [.int v132, .int v129] M131 Q
      refine gv_icmp_eq (t := 790) (by decide) (gl_dec ok_L_law 442 703 (.if_icmp .eq 87) 3 rfl) (fun c => ?_) (fun c => ?_)
      · replace h := h.1 c
        refine gv_seg ok_L_law 503 1 (Ps := []) (pc' := 793) (ls' := [.long 0, .ref 0, .ref 42, .int (x3 + 4)]) (st' := []) (M2 := M131) rfl trivial ?_
        refine gv_goto (t := 18) (by decide) (gl_dec ok_L_law 504 793 (.goto (-775)) 3 rfl) ?_
        exact h
      · replace h := h.2 c
        refine gv_seg ok_L_law 443 1 (Ps := []) (pc' := 707) (ls' := [.long 0, .ref 0, .ref 42, .int x3]) (st' := [.int 0]) (M2 := M131) rfl trivial ?_
        exact gv_retZ (gl_dec ok_L_law 444 707 (.ireturn) 1 rfl) rfl (by decide) h
    by_cases c22 : ((sc.2 (Int32.toNatClampNeg x3)) &&& 31) = 22
    · replace h := h.2.2.2.2.2.2.2.2.2.2.2.2.2.2.2.2.2.2.2.2.2.2.1 c22
      refine gv_table hd (by rw [c22]; decide) (by rw [c22]; decide) (off := 676) (t := 708) (by rw [c22]; rfl) (by decide) ?_
      refine gv_seg ok_L_law 445 1 (Ps := []) (pc' := 709) (ls' := [.long 0, .ref 0, .ref 42, .int x3]) (st' := [.ref 0]) (M2 := M) rfl trivial ?_
      refine gv_vcall (M' := m_X10_unseen) (o := 0) (ci := 10) (As := []) (st := []) (gl_dec ok_L_law 446 709 (.invokevirtual 105) 3 rfl) (gl_lnk ok_L_law 446 rfl rfl) mw_X10_unseen iw_X10_unseen lw_X10_unseen ⟨by decide, by decide⟩ rfl rfl rfl ⟨rfl, Nat.le_of_ble_eq_true rfl⟩ h (fun r133 M134 hq => ?_)
      obtain ⟨v135, rfl, h⟩ := hq
      change gv l sc m_L_law 712 [.long 0, .ref 0, .ref 42, .int x3] [.int v135] M134 Q
      refine gv_seg ok_L_law 447 1 (Ps := []) (pc' := 713) (ls' := [.long 0, .ref 0, .ref 42, .int x3]) (st' := [.ref 42, .int v135]) (M2 := M134) rfl trivial ?_
      refine gv_vcall (M' := m_X11_unseen) (o := 42) (ci := 11) (As := []) (st := [.int v135]) (gl_dec ok_L_law 448 713 (.invokevirtual 108) 3 rfl) (gl_lnk ok_L_law 448 rfl rfl) mw_X11_unseen iw_X11_unseen lw_X11_unseen ⟨by decide, by decide⟩ rfl rfl rfl ⟨rfl, Nat.le_of_ble_eq_true rfl⟩ h (fun r136 M137 hq => ?_)
      obtain ⟨v138, rfl, h⟩ := hq
      change gv l sc m_L_law 716 [.long 0, .ref 0, .ref 42, .int x3] [.int v138, .int v135] M137 Q
      refine gv_icmp_eq (t := 790) (by decide) (gl_dec ok_L_law 449 716 (.if_icmp .eq 74) 3 rfl) (fun c => ?_) (fun c => ?_)
      · replace h := h.1 c
        refine gv_seg ok_L_law 503 1 (Ps := []) (pc' := 793) (ls' := [.long 0, .ref 0, .ref 42, .int (x3 + 4)]) (st' := []) (M2 := M137) rfl trivial ?_
        refine gv_goto (t := 18) (by decide) (gl_dec ok_L_law 504 793 (.goto (-775)) 3 rfl) ?_
        exact h
      · replace h := h.2 c
        refine gv_seg ok_L_law 450 1 (Ps := []) (pc' := 720) (ls' := [.long 0, .ref 0, .ref 42, .int x3]) (st' := [.int 0]) (M2 := M137) rfl trivial ?_
        exact gv_retZ (gl_dec ok_L_law 451 720 (.ireturn) 1 rfl) rfl (by decide) h
    by_cases c23 : ((sc.2 (Int32.toNatClampNeg x3)) &&& 31) = 23
    · replace h := h.2.2.2.2.2.2.2.2.2.2.2.2.2.2.2.2.2.2.2.2.2.2.2.1 c23
      refine gv_table hd (by rw [c23]; decide) (by rw [c23]; decide) (off := 689) (t := 721) (by rw [c23]; rfl) (by decide) ?_
      obtain ⟨hp, h⟩ := h
      refine gv_seg ok_L_law 452 6 (Ps := [vp_in (x3 + 1) sc.1]) (pc' := 727) (ls' := [.long 0, .ref 0, .ref 42, .int x3]) (st' := [.int (sc.2 (Int32.toNatClampNeg (x3 + 1))), .ref 0]) (M2 := M) rfl hp ?_
      refine gv_vcall (M' := m_X10_keep) (o := 0) (ci := 10) (As := [.int (sc.2 (Int32.toNatClampNeg (x3 + 1)))]) (st := []) (gl_dec ok_L_law 458 727 (.invokevirtual 109) 3 rfl) (gl_lnk ok_L_law 458 rfl rfl) mw_X10_keep iw_X10_keep lw_X10_keep ⟨by decide, by decide⟩ rfl rfl rfl ⟨rfl, Nat.le_of_ble_eq_true rfl⟩ h (fun r139 M140 hq => ?_)
      obtain ⟨v141, rfl, h⟩ := hq
      change gv l sc m_L_law 730 [.long 0, .ref 0, .ref 42, .int x3] [.int v141] M140 Q
      obtain ⟨hp, h⟩ := h
      refine gv_seg ok_L_law 459 6 (Ps := [vp_in (x3 + 1) sc.1]) (pc' := 736) (ls' := [.long 0, .ref 0, .ref 42, .int x3]) (st' := [.int (sc.2 (Int32.toNatClampNeg (x3 + 1))), .ref 42, .int v141]) (M2 := M140) rfl hp ?_
      refine gv_vcall (M' := m_X11_keep) (o := 42) (ci := 11) (As := [.int (sc.2 (Int32.toNatClampNeg (x3 + 1)))]) (st := [.int v141]) (gl_dec ok_L_law 465 736 (.invokevirtual 112) 3 rfl) (gl_lnk ok_L_law 465 rfl rfl) mw_X11_keep iw_X11_keep lw_X11_keep ⟨by decide, by decide⟩ rfl rfl rfl ⟨rfl, Nat.le_of_ble_eq_true rfl⟩ h (fun r142 M143 hq => ?_)
      obtain ⟨v144, rfl, h⟩ := hq
      change gv l sc m_L_law 739 [.long 0, .ref 0, .ref 42, .int x3] [.int v144, .int v141] M143 Q
      refine gv_icmp_eq (t := 790) (by decide) (gl_dec ok_L_law 466 739 (.if_icmp .eq 51) 3 rfl) (fun c => ?_) (fun c => ?_)
      · replace h := h.1 c
        refine gv_seg ok_L_law 503 1 (Ps := []) (pc' := 793) (ls' := [.long 0, .ref 0, .ref 42, .int (x3 + 4)]) (st' := []) (M2 := M143) rfl trivial ?_
        refine gv_goto (t := 18) (by decide) (gl_dec ok_L_law 504 793 (.goto (-775)) 3 rfl) ?_
        exact h
      · replace h := h.2 c
        refine gv_seg ok_L_law 467 1 (Ps := []) (pc' := 743) (ls' := [.long 0, .ref 0, .ref 42, .int x3]) (st' := [.int 0]) (M2 := M143) rfl trivial ?_
        exact gv_retZ (gl_dec ok_L_law 468 743 (.ireturn) 1 rfl) rfl (by decide) h
    by_cases c24 : ((sc.2 (Int32.toNatClampNeg x3)) &&& 31) = 24
    · replace h := h.2.2.2.2.2.2.2.2.2.2.2.2.2.2.2.2.2.2.2.2.2.2.2.2.1 c24
      refine gv_table hd (by rw [c24]; decide) (by rw [c24]; decide) (off := 712) (t := 744) (by rw [c24]; rfl) (by decide) ?_
      obtain ⟨hp, h⟩ := h
      refine gv_seg ok_L_law 469 6 (Ps := [vp_in (x3 + 1) sc.1]) (pc' := 750) (ls' := [.long 0, .ref 0, .ref 42, .int x3]) (st' := [.int (sc.2 (Int32.toNatClampNeg (x3 + 1))), .ref 0]) (M2 := M) rfl hp ?_
      refine gv_vcall (M' := m_X10_back) (o := 0) (ci := 10) (As := [.int (sc.2 (Int32.toNatClampNeg (x3 + 1)))]) (st := []) (gl_dec ok_L_law 475 750 (.invokevirtual 113) 3 rfl) (gl_lnk ok_L_law 475 rfl rfl) mw_X10_back iw_X10_back lw_X10_back ⟨by decide, by decide⟩ rfl rfl rfl ⟨rfl, Nat.le_of_ble_eq_true rfl⟩ h (fun r145 M146 hq => ?_)
      obtain ⟨v147, rfl, h⟩ := hq
      change gv l sc m_L_law 753 [.long 0, .ref 0, .ref 42, .int x3] [.int v147] M146 Q
      obtain ⟨hp, h⟩ := h
      refine gv_seg ok_L_law 476 6 (Ps := [vp_in (x3 + 1) sc.1]) (pc' := 759) (ls' := [.long 0, .ref 0, .ref 42, .int x3]) (st' := [.int (sc.2 (Int32.toNatClampNeg (x3 + 1))), .ref 42, .int v147]) (M2 := M146) rfl hp ?_
      refine gv_vcall (M' := m_X11_back) (o := 42) (ci := 11) (As := [.int (sc.2 (Int32.toNatClampNeg (x3 + 1)))]) (st := [.int v147]) (gl_dec ok_L_law 482 759 (.invokevirtual 116) 3 rfl) (gl_lnk ok_L_law 482 rfl rfl) mw_X11_back iw_X11_back lw_X11_back ⟨by decide, by decide⟩ rfl rfl rfl ⟨rfl, Nat.le_of_ble_eq_true rfl⟩ h (fun r148 M149 hq => ?_)
      obtain ⟨v150, rfl, h⟩ := hq
      change gv l sc m_L_law 762 [.long 0, .ref 0, .ref 42, .int x3] [.int v150, .int v147] M149 Q
      refine gv_icmp_eq (t := 790) (by decide) (gl_dec ok_L_law 483 762 (.if_icmp .eq 28) 3 rfl) (fun c => ?_) (fun c => ?_)
      · replace h := h.1 c
        refine gv_seg ok_L_law 503 1 (Ps := []) (pc' := 793) (ls' := [.long 0, .ref 0, .ref 42, .int (x3 + 4)]) (st' := []) (M2 := M149) rfl trivial ?_
        refine gv_goto (t := 18) (by decide) (gl_dec ok_L_law 504 793 (.goto (-775)) 3 rfl) ?_
        exact h
      · replace h := h.2 c
        refine gv_seg ok_L_law 484 1 (Ps := []) (pc' := 766) (ls' := [.long 0, .ref 0, .ref 42, .int x3]) (st' := [.int 0]) (M2 := M149) rfl trivial ?_
        exact gv_retZ (gl_dec ok_L_law 485 766 (.ireturn) 1 rfl) rfl (by decide) h
    by_cases c25 : ((sc.2 (Int32.toNatClampNeg x3)) &&& 31) = 25
    · replace h := h.2.2.2.2.2.2.2.2.2.2.2.2.2.2.2.2.2.2.2.2.2.2.2.2.2.1 c25
      refine gv_table hd (by rw [c25]; decide) (by rw [c25]; decide) (off := 735) (t := 767) (by rw [c25]; rfl) (by decide) ?_
      obtain ⟨hp, h⟩ := h
      refine gv_seg ok_L_law 486 6 (Ps := [vp_in (x3 + 1) sc.1]) (pc' := 773) (ls' := [.long 0, .ref 0, .ref 42, .int x3]) (st' := [.int (sc.2 (Int32.toNatClampNeg (x3 + 1))), .ref 0]) (M2 := M) rfl hp ?_
      refine gv_vcall (M' := m_X10_count) (o := 0) (ci := 10) (As := [.int (sc.2 (Int32.toNatClampNeg (x3 + 1)))]) (st := []) (gl_dec ok_L_law 492 773 (.invokevirtual 117) 3 rfl) (gl_lnk ok_L_law 492 rfl rfl) mw_X10_count iw_X10_count lw_X10_count ⟨by decide, by decide⟩ rfl rfl rfl ⟨rfl, Nat.le_of_ble_eq_true rfl⟩ h (fun r151 M152 hq => ?_)
      obtain ⟨v153, rfl, h⟩ := hq
      change gv l sc m_L_law 776 [.long 0, .ref 0, .ref 42, .int x3] [.int v153] M152 Q
      obtain ⟨hp, h⟩ := h
      refine gv_seg ok_L_law 493 6 (Ps := [vp_in (x3 + 1) sc.1]) (pc' := 782) (ls' := [.long 0, .ref 0, .ref 42, .int x3]) (st' := [.int (sc.2 (Int32.toNatClampNeg (x3 + 1))), .ref 42, .int v153]) (M2 := M152) rfl hp ?_
      refine gv_vcall (M' := m_X11_count) (o := 42) (ci := 11) (As := [.int (sc.2 (Int32.toNatClampNeg (x3 + 1)))]) (st := [.int v153]) (gl_dec ok_L_law 499 782 (.invokevirtual 120) 3 rfl) (gl_lnk ok_L_law 499 rfl rfl) mw_X11_count iw_X11_count lw_X11_count ⟨by decide, by decide⟩ rfl rfl rfl ⟨rfl, Nat.le_of_ble_eq_true rfl⟩ h (fun r154 M155 hq => ?_)
      obtain ⟨v156, rfl, h⟩ := hq
      change gv l sc m_L_law 785 [.long 0, .ref 0, .ref 42, .int x3] [.int v156, .int v153] M155 Q
      refine gv_icmp_eq (t := 790) (by decide) (gl_dec ok_L_law 500 785 (.if_icmp .eq 5) 3 rfl) (fun c => ?_) (fun c => ?_)
      · replace h := h.1 c
        refine gv_seg ok_L_law 503 1 (Ps := []) (pc' := 793) (ls' := [.long 0, .ref 0, .ref 42, .int (x3 + 4)]) (st' := []) (M2 := M155) rfl trivial ?_
        refine gv_goto (t := 18) (by decide) (gl_dec ok_L_law 504 793 (.goto (-775)) 3 rfl) ?_
        exact h
      · replace h := h.2 c
        refine gv_seg ok_L_law 501 1 (Ps := []) (pc' := 789) (ls' := [.long 0, .ref 0, .ref 42, .int x3]) (st' := [.int 0]) (M2 := M155) rfl trivial ?_
        exact gv_retZ (gl_dec ok_L_law 502 789 (.ireturn) 1 rfl) rfl (by decide) h
    replace h := h.2.2.2.2.2.2.2.2.2.2.2.2.2.2.2.2.2.2.2.2.2.2.2.2.2.2 c0 c1 c2 c3 c4 c5 c6 c7 c8 c9 c10 c11 c12 c13 c14 c15 c16 c17 c18 c19 c20 c21 c22 c23 c24 c25
    refine gv_tableD hd (gl_swout 26 (by decide) (by intro i hi; rcases (show i = 0 ∨ i = 1 ∨ i = 2 ∨ i = 3 ∨ i = 4 ∨ i = 5 ∨ i = 6 ∨ i = 7 ∨ i = 8 ∨ i = 9 ∨ i = 10 ∨ i = 11 ∨ i = 12 ∨ i = 13 ∨ i = 14 ∨ i = 15 ∨ i = 16 ∨ i = 17 ∨ i = 18 ∨ i = 19 ∨ i = 20 ∨ i = 21 ∨ i = 22 ∨ i = 23 ∨ i = 24 ∨ i = 25 by omega) with rfl | rfl | rfl | rfl | rfl | rfl | rfl | rfl | rfl | rfl | rfl | rfl | rfl | rfl | rfl | rfl | rfl | rfl | rfl | rfl | rfl | rfl | rfl | rfl | rfl | rfl <;> assumption)) (t := 790) (by decide) ?_
    refine gv_seg ok_L_law 503 1 (Ps := []) (pc' := 793) (ls' := [.long 0, .ref 0, .ref 42, .int (x3 + 4)]) (st' := []) (M2 := M) rfl trivial ?_
    refine gv_goto (t := 18) (by decide) (gl_dec ok_L_law 504 793 (.goto (-775)) 3 rfl) ?_
    exact h
