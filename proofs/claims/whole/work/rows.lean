section
-- ===== PART A: goes FIRST, ahead of the names: the tables' words, and 'selects' of the private methods out of them =====
/-- a private method of a class that the tables say can be made, by its rows of tables_1 -/
def lw_okq (q : MethodName × Nat) : Prop := (q.1.cls ≠ "java/lang/invoke/MethodHandle" ∧ q.1.cls ≠ "java/lang/invoke/VarHandle") ∧ Cond.instantiable q.1.cls q.2 ∈ tables_1 ∧ Cond.privateMethod q.1 ∈ tables_1 ∧ Cond.instanceMethod q.1 ∈ tables_1
theorem lw_p0 : lw_okq (⟨"MacroKeys", "sheetOf", "(I)LMacroKeys$Sheet;"⟩, 11) := ⟨⟨by decide +kernel, by decide +kernel⟩, List.mem_of_getElem? (i := 12) (by decide +kernel), List.mem_of_getElem? (i := 167) (by decide +kernel), List.mem_of_getElem? (i := 168) (by decide +kernel)⟩
theorem lw_p1 : lw_okq (⟨"MacroKeys", "meet", "(I)I"⟩, 11) := ⟨⟨by decide +kernel, by decide +kernel⟩, List.mem_of_getElem? (i := 12) (by decide +kernel), List.mem_of_getElem? (i := 182) (by decide +kernel), List.mem_of_getElem? (i := 183) (by decide +kernel)⟩
theorem lw_p2 : lw_okq (⟨"MacroKeys$Reader", "goesOn", "(I)Z"⟩, 4) := ⟨⟨by decide +kernel, by decide +kernel⟩, List.mem_of_getElem? (i := 70) (by decide +kernel), List.mem_of_getElem? (i := 190) (by decide +kernel), List.mem_of_getElem? (i := 191) (by decide +kernel)⟩
theorem lw_p3 : lw_okq (⟨"MacroKeys$Reader", "begins", "(I)Z"⟩, 4) := ⟨⟨by decide +kernel, by decide +kernel⟩, List.mem_of_getElem? (i := 70) (by decide +kernel), List.mem_of_getElem? (i := 194) (by decide +kernel), List.mem_of_getElem? (i := 195) (by decide +kernel)⟩
theorem lw_p4 : lw_okq (⟨"MacroKeys$Reader", "marks", "(I)Z"⟩, 4) := ⟨⟨by decide +kernel, by decide +kernel⟩, List.mem_of_getElem? (i := 70) (by decide +kernel), List.mem_of_getElem? (i := 198) (by decide +kernel), List.mem_of_getElem? (i := 199) (by decide +kernel)⟩
theorem lw_p5 : lw_okq (⟨"MacroKeys$Reader", "tellsKind", "(I)Z"⟩, 4) := ⟨⟨by decide +kernel, by decide +kernel⟩, List.mem_of_getElem? (i := 70) (by decide +kernel), List.mem_of_getElem? (i := 202) (by decide +kernel), List.mem_of_getElem? (i := 203) (by decide +kernel)⟩
theorem lw_p6 : lw_okq (⟨"MacroKeys$Reader", "tellsTimes", "(I)Z"⟩, 4) := ⟨⟨by decide +kernel, by decide +kernel⟩, List.mem_of_getElem? (i := 70) (by decide +kernel), List.mem_of_getElem? (i := 206) (by decide +kernel), List.mem_of_getElem? (i := 207) (by decide +kernel)⟩
theorem lw_p7 : lw_okq (⟨"MacroKeys$Reader", "addsKey", "(I)Z"⟩, 4) := ⟨⟨by decide +kernel, by decide +kernel⟩, List.mem_of_getElem? (i := 70) (by decide +kernel), List.mem_of_getElem? (i := 210) (by decide +kernel), List.mem_of_getElem? (i := 211) (by decide +kernel)⟩
theorem lw_p8 : lw_okq (⟨"MacroKeys$Reader", "keyOf", "(I)I"⟩, 4) := ⟨⟨by decide +kernel, by decide +kernel⟩, List.mem_of_getElem? (i := 70) (by decide +kernel), List.mem_of_getElem? (i := 214) (by decide +kernel), List.mem_of_getElem? (i := 215) (by decide +kernel)⟩
theorem lw_p9 : lw_okq (⟨"MacroKeys$Reader", "hasKeys", "()Z"⟩, 4) := ⟨⟨by decide +kernel, by decide +kernel⟩, List.mem_of_getElem? (i := 70) (by decide +kernel), List.mem_of_getElem? (i := 218) (by decide +kernel), List.mem_of_getElem? (i := 219) (by decide +kernel)⟩
theorem lw_p10 : lw_okq (⟨"MacroKeys$Board", "forget", "(I)V"⟩, 3) := ⟨⟨by decide +kernel, by decide +kernel⟩, List.mem_of_getElem? (i := 20) (by decide +kernel), List.mem_of_getElem? (i := 233) (by decide +kernel), List.mem_of_getElem? (i := 234) (by decide +kernel)⟩
theorem lw_p11 : lw_okq (⟨"MacroKeys$Board", "pressesOf", "(I)I"⟩, 3) := ⟨⟨by decide +kernel, by decide +kernel⟩, List.mem_of_getElem? (i := 20) (by decide +kernel), List.mem_of_getElem? (i := 255) (by decide +kernel), List.mem_of_getElem? (i := 256) (by decide +kernel)⟩
theorem lw_p12 : lw_okq (⟨"MacroKeys$Board", "effectOf", "(II)I"⟩, 3) := ⟨⟨by decide +kernel, by decide +kernel⟩, List.mem_of_getElem? (i := 20) (by decide +kernel), List.mem_of_getElem? (i := 299) (by decide +kernel), List.mem_of_getElem? (i := 300) (by decide +kernel)⟩
theorem lw_p13 : lw_okq (⟨"MacroKeys$Board", "played", "(ILMacroKeys$Macro;I)I"⟩, 3) := ⟨⟨by decide +kernel, by decide +kernel⟩, List.mem_of_getElem? (i := 20) (by decide +kernel), List.mem_of_getElem? (i := 304) (by decide +kernel), List.mem_of_getElem? (i := 305) (by decide +kernel)⟩
theorem lw_p14 : lw_okq (⟨"MacroKeys", "ofRow", "(LMacroKeys$Sheet;III)I"⟩, 11) := ⟨⟨by decide +kernel, by decide +kernel⟩, List.mem_of_getElem? (i := 12) (by decide +kernel), List.mem_of_getElem? (i := 347) (by decide +kernel), List.mem_of_getElem? (i := 348) (by decide +kernel)⟩
theorem lw_p15 : lw_okq (⟨"MacroKeys$Search", "queueUp", "(II)V"⟩, 3) := ⟨⟨by decide +kernel, by decide +kernel⟩, List.mem_of_getElem? (i := 93) (by decide +kernel), List.mem_of_getElem? (i := 373) (by decide +kernel), List.mem_of_getElem? (i := 374) (by decide +kernel)⟩
def lw_privs_1 : List (MethodName × Nat) := [(⟨"MacroKeys", "sheetOf", "(I)LMacroKeys$Sheet;"⟩, 11), (⟨"MacroKeys", "meet", "(I)I"⟩, 11), (⟨"MacroKeys$Reader", "goesOn", "(I)Z"⟩, 4), (⟨"MacroKeys$Reader", "begins", "(I)Z"⟩, 4), (⟨"MacroKeys$Reader", "marks", "(I)Z"⟩, 4), (⟨"MacroKeys$Reader", "tellsKind", "(I)Z"⟩, 4), (⟨"MacroKeys$Reader", "tellsTimes", "(I)Z"⟩, 4), (⟨"MacroKeys$Reader", "addsKey", "(I)Z"⟩, 4), (⟨"MacroKeys$Reader", "keyOf", "(I)I"⟩, 4), (⟨"MacroKeys$Reader", "hasKeys", "()Z"⟩, 4), (⟨"MacroKeys$Board", "forget", "(I)V"⟩, 3), (⟨"MacroKeys$Board", "pressesOf", "(I)I"⟩, 3), (⟨"MacroKeys$Board", "effectOf", "(II)I"⟩, 3), (⟨"MacroKeys$Board", "played", "(ILMacroKeys$Macro;I)I"⟩, 3), (⟨"MacroKeys", "ofRow", "(LMacroKeys$Sheet;III)I"⟩, 11), (⟨"MacroKeys$Search", "queueUp", "(II)V"⟩, 3)]
theorem lw_r1 : ∀ q ∈ lw_privs_1, lw_okq q := List.forall_mem_cons.mpr ⟨lw_p0, List.forall_mem_cons.mpr ⟨lw_p1, List.forall_mem_cons.mpr ⟨lw_p2, List.forall_mem_cons.mpr ⟨lw_p3, List.forall_mem_cons.mpr ⟨lw_p4, List.forall_mem_cons.mpr ⟨lw_p5, List.forall_mem_cons.mpr ⟨lw_p6, List.forall_mem_cons.mpr ⟨lw_p7, List.forall_mem_cons.mpr ⟨lw_p8, List.forall_mem_cons.mpr ⟨lw_p9, List.forall_mem_cons.mpr ⟨lw_p10, List.forall_mem_cons.mpr ⟨lw_p11, List.forall_mem_cons.mpr ⟨lw_p12, List.forall_mem_cons.mpr ⟨lw_p13, List.forall_mem_cons.mpr ⟨lw_p14, List.forall_mem_cons.mpr ⟨lw_p15, fun _ h => absurd h List.not_mem_nil⟩⟩⟩⟩⟩⟩⟩⟩⟩⟩⟩⟩⟩⟩⟩⟩
theorem lw_p16 : lw_okq (⟨"MacroKeys$Search", "playOn", "(LMacroKeys$Board;II)I"⟩, 3) := ⟨⟨by decide +kernel, by decide +kernel⟩, List.mem_of_getElem? (i := 93) (by decide +kernel), List.mem_of_getElem? (i := 403) (by decide +kernel), List.mem_of_getElem? (i := 404) (by decide +kernel)⟩
theorem lw_p17 : lw_okq (⟨"MacroKeys", "readingsAreSo", "()Z"⟩, 11) := ⟨⟨by decide +kernel, by decide +kernel⟩, List.mem_of_getElem? (i := 12) (by decide +kernel), List.mem_of_getElem? (i := 446) (by decide +kernel), List.mem_of_getElem? (i := 447) (by decide +kernel)⟩
theorem lw_p18 : lw_okq (⟨"MacroKeys", "evenTells", "(LMacroKeys$Macro;)I"⟩, 11) := ⟨⟨by decide +kernel, by decide +kernel⟩, List.mem_of_getElem? (i := 12) (by decide +kernel), List.mem_of_getElem? (i := 497) (by decide +kernel), List.mem_of_getElem? (i := 498) (by decide +kernel)⟩
theorem lw_p19 : lw_okq (⟨"MacroKeys", "leave", "(I)V"⟩, 11) := ⟨⟨by decide +kernel, by decide +kernel⟩, List.mem_of_getElem? (i := 12) (by decide +kernel), List.mem_of_getElem? (i := 501) (by decide +kernel), List.mem_of_getElem? (i := 502) (by decide +kernel)⟩
theorem lw_p20 : lw_okq (⟨"MacroKeys", "broadTells", "(LMacroKeys$Macro;)I"⟩, 11) := ⟨⟨by decide +kernel, by decide +kernel⟩, List.mem_of_getElem? (i := 12) (by decide +kernel), List.mem_of_getElem? (i := 505) (by decide +kernel), List.mem_of_getElem? (i := 506) (by decide +kernel)⟩
theorem lw_p21 : lw_okq (⟨"MacroKeys", "plainTells", "(LMacroKeys$Macro;)I"⟩, 11) := ⟨⟨by decide +kernel, by decide +kernel⟩, List.mem_of_getElem? (i := 12) (by decide +kernel), List.mem_of_getElem? (i := 509) (by decide +kernel), List.mem_of_getElem? (i := 510) (by decide +kernel)⟩
theorem lw_p22 : lw_okq (⟨"MacroKeysModel", "against", "(IIII)I"⟩, 35) := ⟨⟨by decide +kernel, by decide +kernel⟩, List.mem_of_getElem? (i := 533) (by decide +kernel), List.mem_of_getElem? (i := 659) (by decide +kernel), List.mem_of_getElem? (i := 660) (by decide +kernel)⟩
theorem lw_p23 : lw_okq (⟨"MacroKeysModel", "fails", "(I)I"⟩, 35) := ⟨⟨by decide +kernel, by decide +kernel⟩, List.mem_of_getElem? (i := 533) (by decide +kernel), List.mem_of_getElem? (i := 663) (by decide +kernel), List.mem_of_getElem? (i := 664) (by decide +kernel)⟩
theorem lw_p24 : lw_okq (⟨"MacroKeysModel", "readMacrosAll", "(I)Z"⟩, 35) := ⟨⟨by decide +kernel, by decide +kernel⟩, List.mem_of_getElem? (i := 533) (by decide +kernel), List.mem_of_getElem? (i := 667) (by decide +kernel), List.mem_of_getElem? (i := 668) (by decide +kernel)⟩
theorem lw_p25 : lw_okq (⟨"MacroKeysModel", "readMacro", "(II)Z"⟩, 35) := ⟨⟨by decide +kernel, by decide +kernel⟩, List.mem_of_getElem? (i := 533) (by decide +kernel), List.mem_of_getElem? (i := 671) (by decide +kernel), List.mem_of_getElem? (i := 672) (by decide +kernel)⟩
theorem lw_p26 : lw_okq (⟨"MacroKeysModel", "isMacro", "(I)Z"⟩, 35) := ⟨⟨by decide +kernel, by decide +kernel⟩, List.mem_of_getElem? (i := 533) (by decide +kernel), List.mem_of_getElem? (i := 682) (by decide +kernel), List.mem_of_getElem? (i := 683) (by decide +kernel)⟩
theorem lw_p27 : lw_okq (⟨"MacroKeysModel", "oftenOf", "(I)I"⟩, 35) := ⟨⟨by decide +kernel, by decide +kernel⟩, List.mem_of_getElem? (i := 533) (by decide +kernel), List.mem_of_getElem? (i := 686) (by decide +kernel), List.mem_of_getElem? (i := 687) (by decide +kernel)⟩
theorem lw_p28 : lw_okq (⟨"MacroKeysModel", "findPresses", "()V"⟩, 35) := ⟨⟨by decide +kernel, by decide +kernel⟩, List.mem_of_getElem? (i := 533) (by decide +kernel), List.mem_of_getElem? (i := 690) (by decide +kernel), List.mem_of_getElem? (i := 691) (by decide +kernel)⟩
theorem lw_p29 : lw_okq (⟨"MacroKeysModel", "workOn", "(I)V"⟩, 35) := ⟨⟨by decide +kernel, by decide +kernel⟩, List.mem_of_getElem? (i := 533) (by decide +kernel), List.mem_of_getElem? (i := 706) (by decide +kernel), List.mem_of_getElem? (i := 707) (by decide +kernel)⟩
theorem lw_p30 : lw_okq (⟨"MacroKeysModel", "presses", "(I)Z"⟩, 35) := ⟨⟨by decide +kernel, by decide +kernel⟩, List.mem_of_getElem? (i := 533) (by decide +kernel), List.mem_of_getElem? (i := 713) (by decide +kernel), List.mem_of_getElem? (i := 714) (by decide +kernel)⟩
theorem lw_p31 : lw_okq (⟨"MacroKeysModel", "does", "(I)Z"⟩, 35) := ⟨⟨by decide +kernel, by decide +kernel⟩, List.mem_of_getElem? (i := 533) (by decide +kernel), List.mem_of_getElem? (i := 717) (by decide +kernel), List.mem_of_getElem? (i := 718) (by decide +kernel)⟩
def lw_privs_2 : List (MethodName × Nat) := [(⟨"MacroKeys$Search", "playOn", "(LMacroKeys$Board;II)I"⟩, 3), (⟨"MacroKeys", "readingsAreSo", "()Z"⟩, 11), (⟨"MacroKeys", "evenTells", "(LMacroKeys$Macro;)I"⟩, 11), (⟨"MacroKeys", "leave", "(I)V"⟩, 11), (⟨"MacroKeys", "broadTells", "(LMacroKeys$Macro;)I"⟩, 11), (⟨"MacroKeys", "plainTells", "(LMacroKeys$Macro;)I"⟩, 11), (⟨"MacroKeysModel", "against", "(IIII)I"⟩, 35), (⟨"MacroKeysModel", "fails", "(I)I"⟩, 35), (⟨"MacroKeysModel", "readMacrosAll", "(I)Z"⟩, 35), (⟨"MacroKeysModel", "readMacro", "(II)Z"⟩, 35), (⟨"MacroKeysModel", "isMacro", "(I)Z"⟩, 35), (⟨"MacroKeysModel", "oftenOf", "(I)I"⟩, 35), (⟨"MacroKeysModel", "findPresses", "()V"⟩, 35), (⟨"MacroKeysModel", "workOn", "(I)V"⟩, 35), (⟨"MacroKeysModel", "presses", "(I)Z"⟩, 35), (⟨"MacroKeysModel", "does", "(I)Z"⟩, 35)]
theorem lw_r2 : ∀ q ∈ lw_privs_2, lw_okq q := List.forall_mem_cons.mpr ⟨lw_p16, List.forall_mem_cons.mpr ⟨lw_p17, List.forall_mem_cons.mpr ⟨lw_p18, List.forall_mem_cons.mpr ⟨lw_p19, List.forall_mem_cons.mpr ⟨lw_p20, List.forall_mem_cons.mpr ⟨lw_p21, List.forall_mem_cons.mpr ⟨lw_p22, List.forall_mem_cons.mpr ⟨lw_p23, List.forall_mem_cons.mpr ⟨lw_p24, List.forall_mem_cons.mpr ⟨lw_p25, List.forall_mem_cons.mpr ⟨lw_p26, List.forall_mem_cons.mpr ⟨lw_p27, List.forall_mem_cons.mpr ⟨lw_p28, List.forall_mem_cons.mpr ⟨lw_p29, List.forall_mem_cons.mpr ⟨lw_p30, List.forall_mem_cons.mpr ⟨lw_p31, fun _ h => absurd h List.not_mem_nil⟩⟩⟩⟩⟩⟩⟩⟩⟩⟩⟩⟩⟩⟩⟩⟩
theorem lw_p32 : lw_okq (⟨"MacroKeysModel", "types", "(I)Z"⟩, 35) := ⟨⟨by decide +kernel, by decide +kernel⟩, List.mem_of_getElem? (i := 533) (by decide +kernel), List.mem_of_getElem? (i := 721) (by decide +kernel), List.mem_of_getElem? (i := 722) (by decide +kernel)⟩
theorem lw_p33 : lw_okq (⟨"MacroKeysModel", "takes", "()Z"⟩, 35) := ⟨⟨by decide +kernel, by decide +kernel⟩, List.mem_of_getElem? (i := 533) (by decide +kernel), List.mem_of_getElem? (i := 725) (by decide +kernel), List.mem_of_getElem? (i := 726) (by decide +kernel)⟩
theorem lw_p34 : lw_okq (⟨"MacroKeysModel", "lineNumber", "()I"⟩, 35) := ⟨⟨by decide +kernel, by decide +kernel⟩, List.mem_of_getElem? (i := 533) (by decide +kernel), List.mem_of_getElem? (i := 729) (by decide +kernel), List.mem_of_getElem? (i := 730) (by decide +kernel)⟩
theorem lw_p35 : lw_okq (⟨"MacroKeysModel", "plays", "(I)V"⟩, 35) := ⟨⟨by decide +kernel, by decide +kernel⟩, List.mem_of_getElem? (i := 533) (by decide +kernel), List.mem_of_getElem? (i := 737) (by decide +kernel), List.mem_of_getElem? (i := 738) (by decide +kernel)⟩
theorem lw_p36 : lw_okq (⟨"MacroKeysModel", "goRow", "(II)V"⟩, 35) := ⟨⟨by decide +kernel, by decide +kernel⟩, List.mem_of_getElem? (i := 533) (by decide +kernel), List.mem_of_getElem? (i := 753) (by decide +kernel), List.mem_of_getElem? (i := 754) (by decide +kernel)⟩
theorem lw_p37 : lw_okq (⟨"MacroKeysModel", "tellRow", "(I)I"⟩, 35) := ⟨⟨by decide +kernel, by decide +kernel⟩, List.mem_of_getElem? (i := 533) (by decide +kernel), List.mem_of_getElem? (i := 757) (by decide +kernel), List.mem_of_getElem? (i := 758) (by decide +kernel)⟩
theorem lw_p38 : lw_okq (⟨"MacroKeysModel", "findMakes", "()V"⟩, 35) := ⟨⟨by decide +kernel, by decide +kernel⟩, List.mem_of_getElem? (i := 533) (by decide +kernel), List.mem_of_getElem? (i := 765) (by decide +kernel), List.mem_of_getElem? (i := 766) (by decide +kernel)⟩
theorem lw_p39 : lw_okq (⟨"MacroKeysModel", "madeBy", "(II)I"⟩, 35) := ⟨⟨by decide +kernel, by decide +kernel⟩, List.mem_of_getElem? (i := 533) (by decide +kernel), List.mem_of_getElem? (i := 769) (by decide +kernel), List.mem_of_getElem? (i := 770) (by decide +kernel)⟩
theorem lw_p40 : lw_okq (⟨"MacroKeysModel", "findFar", "(II)V"⟩, 35) := ⟨⟨by decide +kernel, by decide +kernel⟩, List.mem_of_getElem? (i := 533) (by decide +kernel), List.mem_of_getElem? (i := 773) (by decide +kernel), List.mem_of_getElem? (i := 774) (by decide +kernel)⟩
theorem lw_p41 : lw_okq (⟨"MacroKeysModel", "hasTold", "(II)Z"⟩, 35) := ⟨⟨by decide +kernel, by decide +kernel⟩, List.mem_of_getElem? (i := 533) (by decide +kernel), List.mem_of_getElem? (i := 777) (by decide +kernel), List.mem_of_getElem? (i := 778) (by decide +kernel)⟩
theorem lw_p42 : lw_okq (⟨"MacroKeysModel", "keysThere", "()I"⟩, 35) := ⟨⟨by decide +kernel, by decide +kernel⟩, List.mem_of_getElem? (i := 533) (by decide +kernel), List.mem_of_getElem? (i := 781) (by decide +kernel), List.mem_of_getElem? (i := 782) (by decide +kernel)⟩
theorem lw_p43 : lw_okq (⟨"MacroKeysModel", "isKey", "(I)Z"⟩, 35) := ⟨⟨by decide +kernel, by decide +kernel⟩, List.mem_of_getElem? (i := 533) (by decide +kernel), List.mem_of_getElem? (i := 793) (by decide +kernel), List.mem_of_getElem? (i := 794) (by decide +kernel)⟩
theorem lw_p44 : lw_okq (⟨"MacroKeysModel", "areSo", "()Z"⟩, 35) := ⟨⟨by decide +kernel, by decide +kernel⟩, List.mem_of_getElem? (i := 533) (by decide +kernel), List.mem_of_getElem? (i := 817) (by decide +kernel), List.mem_of_getElem? (i := 818) (by decide +kernel)⟩
theorem lw_p45 : lw_okq (⟨"MacroKeysModel", "lost", "(I)J"⟩, 35) := ⟨⟨by decide +kernel, by decide +kernel⟩, List.mem_of_getElem? (i := 533) (by decide +kernel), List.mem_of_getElem? (i := 849) (by decide +kernel), List.mem_of_getElem? (i := 850) (by decide +kernel)⟩
theorem lw_p46 : lw_okq (⟨"MacroKeysModel", "begins", "(I)V"⟩, 35) := ⟨⟨by decide +kernel, by decide +kernel⟩, List.mem_of_getElem? (i := 533) (by decide +kernel), List.mem_of_getElem? (i := 861) (by decide +kernel), List.mem_of_getElem? (i := 862) (by decide +kernel)⟩
def lw_privs_3 : List (MethodName × Nat) := [(⟨"MacroKeysModel", "types", "(I)Z"⟩, 35), (⟨"MacroKeysModel", "takes", "()Z"⟩, 35), (⟨"MacroKeysModel", "lineNumber", "()I"⟩, 35), (⟨"MacroKeysModel", "plays", "(I)V"⟩, 35), (⟨"MacroKeysModel", "goRow", "(II)V"⟩, 35), (⟨"MacroKeysModel", "tellRow", "(I)I"⟩, 35), (⟨"MacroKeysModel", "findMakes", "()V"⟩, 35), (⟨"MacroKeysModel", "madeBy", "(II)I"⟩, 35), (⟨"MacroKeysModel", "findFar", "(II)V"⟩, 35), (⟨"MacroKeysModel", "hasTold", "(II)Z"⟩, 35), (⟨"MacroKeysModel", "keysThere", "()I"⟩, 35), (⟨"MacroKeysModel", "isKey", "(I)Z"⟩, 35), (⟨"MacroKeysModel", "areSo", "()Z"⟩, 35), (⟨"MacroKeysModel", "lost", "(I)J"⟩, 35), (⟨"MacroKeysModel", "begins", "(I)V"⟩, 35)]
theorem lw_r3 : ∀ q ∈ lw_privs_3, lw_okq q := List.forall_mem_cons.mpr ⟨lw_p32, List.forall_mem_cons.mpr ⟨lw_p33, List.forall_mem_cons.mpr ⟨lw_p34, List.forall_mem_cons.mpr ⟨lw_p35, List.forall_mem_cons.mpr ⟨lw_p36, List.forall_mem_cons.mpr ⟨lw_p37, List.forall_mem_cons.mpr ⟨lw_p38, List.forall_mem_cons.mpr ⟨lw_p39, List.forall_mem_cons.mpr ⟨lw_p40, List.forall_mem_cons.mpr ⟨lw_p41, List.forall_mem_cons.mpr ⟨lw_p42, List.forall_mem_cons.mpr ⟨lw_p43, List.forall_mem_cons.mpr ⟨lw_p44, List.forall_mem_cons.mpr ⟨lw_p45, List.forall_mem_cons.mpr ⟨lw_p46, fun _ h => absurd h List.not_mem_nil⟩⟩⟩⟩⟩⟩⟩⟩⟩⟩⟩⟩⟩⟩⟩
def lw_privs : List (MethodName × Nat) := lw_privs_1 ++ (lw_privs_2 ++ (lw_privs_3))
def lw_tbl : List Cond := k2_sels lw_privs ++ tables_1
theorem lw_privs_ok : ∀ q ∈ lw_privs, lw_okq q := by
  show ∀ q ∈ lw_privs_1 ++ (lw_privs_2 ++ (lw_privs_3)), lw_okq q
  exact List.forall_mem_append.mpr ⟨lw_r1, List.forall_mem_append.mpr ⟨lw_r2, lw_r3⟩⟩
end
section
/-! ===== BEGIN words of one list among another's, by their places ===== -/
theorem goodIn_r {big : List Cond} (ws : List Cond) (ps : List Nat) (hp : ws = ps.filterMap (fun i => big[i]?)) (h : ws.all goodWord = true) : GoodIn big ws := by
  intro w hw
  have h1 := List.all_eq_true.mp h w hw
  rw [hp] at hw
  obtain ⟨i, -, hi⟩ := List.mem_filterMap.mp hw
  have hm : w ∈ big := by first | exact List.mem_of_getElem? hi | exact List.getElem?_mem hi
  exact ⟨hm, good_of_word h1⟩
theorem goodIn_app {big a b : List Cond} (ha : GoodIn big a) (hb : GoodIn big b) : GoodIn big (a ++ b) := fun w h => (List.mem_append.mp h).elim (ha w) (hb w)
theorem goodIn_ca {big a b : List Cond} {c : Cond} (ha : GoodIn big (c :: a)) (hb : GoodIn big b) : GoodIn big (c :: (a ++ b)) := fun w h => (List.mem_cons.mp h).elim (fun e => ha w (List.mem_cons.mpr (Or.inl e))) (fun h => (List.mem_append.mp h).elim (fun h => ha w (List.mem_cons.mpr (Or.inr h))) (hb w))
theorem goodIn_sub {big ws : List Cond} (hm : ∀ w ∈ ws, w ∈ big) (h : ws.all goodWord = true) : GoodIn big ws := fun w hw => ⟨hm w hw, good_of_word (List.all_eq_true.mp h w hw)⟩
/-! ===== END ===== -/

/-! ===== BEGIN printed: names, fields, word lists, decode rows ===== -/
def RX0 : String := "MacroKeys$Board"
def TX0 : u_T := fun k => match k with
  | 0 => ("MacroKeys$Board", "many", "I", false)
  | 1 => ("MacroKeys$Board", "macros", "[LMacroKeys$Macro;", true)
  | _ => ("MacroKeys$Board", "effects", "[I", true)
def tyX0 : Nat → FieldType := fun k => match k with
  | 0 => .int
  | 1 => .array (.object "MacroKeys$Macro")
  | _ => .array .int
abbrev wsX00 : List Cond := u_ws RX0 TX0 3
theorem nmX0 : ∀ a, a < 3 → ∀ b, b < 3 → a ≠ b → (TX0 a).2.1 ≠ (TX0 b).2.1 := by decide +kernel
theorem tyX0_ok : ∀ k, k < 3 → parseFieldDescriptor (TX0 k).2.2.1 = some (tyX0 k) := by decide +kernel
abbrev cX0_init : ByteArray := prog_2_method_1_code
def yX0_init : MethodName := ⟨RX0, "<init>", "()V"⟩
abbrev cX0_become : ByteArray := prog_2_method_2_code
def yX0_become : MethodName := ⟨RX0, "become", "(LMacroKeys$Reader;)V"⟩
abbrev cX0_macroOf : ByteArray := prog_2_method_3_code
def yX0_macroOf : MethodName := ⟨RX0, "macroOf", "(I)LMacroKeys$Macro;"⟩
abbrev cX0_keysThereAre : ByteArray := prog_2_method_4_code
def yX0_keysThereAre : MethodName := ⟨RX0, "keysThereAre", "()I"⟩
abbrev cX0_isKey : ByteArray := prog_2_method_5_code
def yX0_isKey : MethodName := ⟨RX0, "isKey", "(I)Z"⟩
abbrev cX0_change : ByteArray := prog_2_method_6_code
def yX0_change : MethodName := ⟨RX0, "change", "(III)V"⟩
abbrev cX0_forget : ByteArray := prog_2_method_7_code
def yX0_forget : MethodName := ⟨RX0, "forget", "(I)V"⟩
abbrev cX0_pressesOf : ByteArray := prog_2_method_8_code
def yX0_pressesOf : MethodName := ⟨RX0, "pressesOf", "(I)I"⟩
abbrev cX0_lineOf : ByteArray := prog_2_method_9_code
def yX0_lineOf : MethodName := ⟨RX0, "lineOf", "(I)I"⟩
abbrev cX0_bumpsOf : ByteArray := prog_2_method_10_code
def yX0_bumpsOf : MethodName := ⟨RX0, "bumpsOf", "(I)I"⟩
abbrev cX0_lineAfter : ByteArray := prog_2_method_11_code
def yX0_lineAfter : MethodName := ⟨RX0, "lineAfter", "(II)I"⟩
abbrev cX0_effectOf : ByteArray := prog_2_method_12_code
def yX0_effectOf : MethodName := ⟨RX0, "effectOf", "(II)I"⟩
abbrev cX0_played : ByteArray := prog_2_method_13_code
def yX0_played : MethodName := ⟨RX0, "played", "(ILMacroKeys$Macro;I)I"⟩
def RX1 : String := "MacroKeys$Line"
def TX1 : u_T := fun k => match k with
  | _ => ("", "", "", false)
def tyX1 : Nat → FieldType := fun k => match k with
  | _ => .int
abbrev wsX10 : List Cond := u_ws RX1 TX1 0
theorem nmX1 : ∀ a, a < 0 → ∀ b, b < 0 → a ≠ b → (TX1 a).2.1 ≠ (TX1 b).2.1 := by decide +kernel
theorem tyX1_ok : ∀ k, k < 0 → parseFieldDescriptor (TX1 k).2.2.1 = some (tyX1 k) := by decide +kernel
abbrev cX1_of : ByteArray := prog_3_method_2_code
def yX1_of : MethodName := ⟨RX1, "of", "(III)I"⟩
abbrev cX1_countOf : ByteArray := prog_3_method_3_code
def yX1_countOf : MethodName := ⟨RX1, "countOf", "(I)I"⟩
abbrev cX1_cursorOf : ByteArray := prog_3_method_4_code
def yX1_cursorOf : MethodName := ⟨RX1, "cursorOf", "(I)I"⟩
abbrev cX1_lettersOf : ByteArray := prog_3_method_5_code
def yX1_lettersOf : MethodName := ⟨RX1, "lettersOf", "(I)I"⟩
abbrev cX1_letterAt : ByteArray := prog_3_method_6_code
def yX1_letterAt : MethodName := ⟨RX1, "letterAt", "(II)I"⟩
abbrev cX1_digitsOf : ByteArray := prog_3_method_7_code
def yX1_digitsOf : MethodName := ⟨RX1, "digitsOf", "(I)I"⟩
abbrev cX1_after : ByteArray := prog_3_method_8_code
def yX1_after : MethodName := ⟨RX1, "after", "(II)I"⟩
abbrev cX1_with : ByteArray := prog_3_method_9_code
def yX1_with : MethodName := ⟨RX1, "with", "(III)I"⟩
abbrev cX1_without : ByteArray := prog_3_method_10_code
def yX1_without : MethodName := ⟨RX1, "without", "(II)I"⟩
def RX2 : String := "MacroKeys$Macro"
def TX2 : u_T := fun k => match k with
  | 0 => ("MacroKeys$Macro", "kind", "I", false)
  | 1 => ("MacroKeys$Macro", "timing", "I", false)
  | 2 => ("MacroKeys$Macro", "count", "I", false)
  | _ => ("MacroKeys$Macro", "keys", "[I", true)
def tyX2 : Nat → FieldType := fun k => match k with
  | 0 => .int
  | 1 => .int
  | 2 => .int
  | _ => .array .int
abbrev wsX20 : List Cond := u_ws RX2 TX2 4
theorem nmX2 : ∀ a, a < 4 → ∀ b, b < 4 → a ≠ b → (TX2 a).2.1 ≠ (TX2 b).2.1 := by decide +kernel
theorem tyX2_ok : ∀ k, k < 4 → parseFieldDescriptor (TX2 k).2.2.1 = some (tyX2 k) := by decide +kernel
abbrev cX2_init : ByteArray := prog_4_method_1_code
def yX2_init : MethodName := ⟨RX2, "<init>", "()V"⟩
abbrev cX2_often : ByteArray := prog_4_method_2_code
def yX2_often : MethodName := ⟨RX2, "often", "()I"⟩
abbrev cX2_become : ByteArray := prog_4_method_3_code
def yX2_become : MethodName := ⟨RX2, "become", "(LMacroKeys$Macro;)V"⟩
def RX3 : String := "MacroKeys$Reader"
def TX3 : u_T := fun k => match k with
  | 0 => ("MacroKeys$Reader", "macros", "[LMacroKeys$Macro;", true)
  | 1 => ("MacroKeys$Reader", "many", "I", false)
  | 2 => ("MacroKeys$Reader", "latest", "LMacroKeys$Macro;", false)
  | _ => ("MacroKeys$Reader", "stage", "I", false)
def tyX3 : Nat → FieldType := fun k => match k with
  | 0 => .array (.object "MacroKeys$Macro")
  | 1 => .int
  | 2 => .object "MacroKeys$Macro"
  | _ => .int
abbrev wsX30 : List Cond := u_ws RX3 TX3 4
theorem nmX3 : ∀ a, a < 4 → ∀ b, b < 4 → a ≠ b → (TX3 a).2.1 ≠ (TX3 b).2.1 := by decide +kernel
theorem tyX3_ok : ∀ k, k < 4 → parseFieldDescriptor (TX3 k).2.2.1 = some (tyX3 k) := by decide +kernel
abbrev cX3_init : ByteArray := prog_5_method_1_code
def yX3_init : MethodName := ⟨RX3, "<init>", "()V"⟩
abbrev cX3_firstFault : ByteArray := prog_5_method_2_code
def yX3_firstFault : MethodName := ⟨RX3, "firstFault", "(LMacroKeys$Sheet;II)I"⟩
abbrev cX3_goesOn : ByteArray := prog_5_method_3_code
def yX3_goesOn : MethodName := ⟨RX3, "goesOn", "(I)Z"⟩
abbrev cX3_hasKeys : ByteArray := prog_5_method_4_code
def yX3_hasKeys : MethodName := ⟨RX3, "hasKeys", "()Z"⟩
abbrev cX3_begins : ByteArray := prog_5_method_5_code
def yX3_begins : MethodName := ⟨RX3, "begins", "(I)Z"⟩
abbrev cX3_marks : ByteArray := prog_5_method_6_code
def yX3_marks : MethodName := ⟨RX3, "marks", "(I)Z"⟩
abbrev cX3_tellsKind : ByteArray := prog_5_method_7_code
def yX3_tellsKind : MethodName := ⟨RX3, "tellsKind", "(I)Z"⟩
abbrev cX3_tellsTimes : ByteArray := prog_5_method_8_code
def yX3_tellsTimes : MethodName := ⟨RX3, "tellsTimes", "(I)Z"⟩
abbrev cX3_addsKey : ByteArray := prog_5_method_9_code
def yX3_addsKey : MethodName := ⟨RX3, "addsKey", "(I)Z"⟩
abbrev cX3_keyOf : ByteArray := prog_5_method_10_code
def yX3_keyOf : MethodName := ⟨RX3, "keyOf", "(I)I"⟩
def RX4 : String := "MacroKeys$Search"
def TX4 : u_T := fun k => match k with
  | 0 => ("MacroKeys$Search", "queue", "[I", true)
  | 1 => ("MacroKeys$Search", "cameBy", "[I", true)
  | _ => ("MacroKeys$Search", "reached", "I", false)
def tyX4 : Nat → FieldType := fun k => match k with
  | 0 => .array .int
  | 1 => .array .int
  | _ => .int
abbrev wsX40 : List Cond := u_ws RX4 TX4 3
theorem nmX4 : ∀ a, a < 3 → ∀ b, b < 3 → a ≠ b → (TX4 a).2.1 ≠ (TX4 b).2.1 := by decide +kernel
theorem tyX4_ok : ∀ k, k < 3 → parseFieldDescriptor (TX4 k).2.2.1 = some (tyX4 k) := by decide +kernel
abbrev cX4_init : ByteArray := prog_6_method_1_code
def yX4_init : MethodName := ⟨RX4, "<init>", "()V"⟩
abbrev cX4_reachable : ByteArray := prog_6_method_2_code
def yX4_reachable : MethodName := ⟨RX4, "reachable", "(LMacroKeys$Board;II)I"⟩
abbrev cX4_find : ByteArray := prog_6_method_3_code
def yX4_find : MethodName := ⟨RX4, "find", "(LMacroKeys$Board;III)I"⟩
abbrev cX4_queueUp : ByteArray := prog_6_method_4_code
def yX4_queueUp : MethodName := ⟨RX4, "queueUp", "(II)V"⟩
abbrev cX4_hasLetters : ByteArray := prog_6_method_5_code
def yX4_hasLetters : MethodName := ⟨RX4, "hasLetters", "(II)Z"⟩
abbrev cX4_stepsTo : ByteArray := prog_6_method_6_code
def yX4_stepsTo : MethodName := ⟨RX4, "stepsTo", "(I)I"⟩
abbrev cX4_keyTo : ByteArray := prog_6_method_7_code
def yX4_keyTo : MethodName := ⟨RX4, "keyTo", "(II)I"⟩
abbrev cX4_aheadOfRound : ByteArray := prog_6_method_8_code
def yX4_aheadOfRound : MethodName := ⟨RX4, "aheadOfRound", "(LMacroKeys$Board;II)I"⟩
abbrev cX4_round : ByteArray := prog_6_method_9_code
def yX4_round : MethodName := ⟨RX4, "round", "(LMacroKeys$Board;II)I"⟩
abbrev cX4_playOn : ByteArray := prog_6_method_10_code
def yX4_playOn : MethodName := ⟨RX4, "playOn", "(LMacroKeys$Board;II)I"⟩
def RX5 : String := "MacroKeys$Sheet"
def TX5 : u_T := fun k => match k with
  | 0 => ("MacroKeys$Sheet", "lane", "I", false)
  | 1 => ("MacroKeys$Sheet", "count", "I", false)
  | _ => ("MacroKeys$Sheet", "cells", "[I", true)
def tyX5 : Nat → FieldType := fun k => match k with
  | 0 => .int
  | 1 => .int
  | _ => .array .int
abbrev wsX50 : List Cond := u_ws RX5 TX5 3
theorem nmX5 : ∀ a, a < 3 → ∀ b, b < 3 → a ≠ b → (TX5 a).2.1 ≠ (TX5 b).2.1 := by decide +kernel
theorem tyX5_ok : ∀ k, k < 3 → parseFieldDescriptor (TX5 k).2.2.1 = some (tyX5 k) := by decide +kernel
abbrev cX5_init : ByteArray := prog_7_method_1_code
def yX5_init : MethodName := ⟨RX5, "<init>", "()V"⟩
abbrev cX5_renew : ByteArray := prog_7_method_2_code
def yX5_renew : MethodName := ⟨RX5, "renew", "(II)V"⟩
abbrev cX5_faultOf : ByteArray := prog_7_method_3_code
def yX5_faultOf : MethodName := ⟨RX5, "faultOf", "(III)I"⟩
abbrev cX5_hasAll : ByteArray := prog_7_method_4_code
def yX5_hasAll : MethodName := ⟨RX5, "hasAll", "(II)Z"⟩
abbrev cX5_allWithin : ByteArray := prog_7_method_5_code
def yX5_allWithin : MethodName := ⟨RX5, "allWithin", "(III)Z"⟩
abbrev cX5_cut : ByteArray := prog_7_method_6_code
def yX5_cut : MethodName := ⟨RX5, "cut", "(I)I"⟩
def RX6 : String := "MacroKeys"
def TX6 : u_T := fun k => match k with
  | 0 => ("MacroKeys", "board", "LMacroKeys$Board;", true)
  | 1 => ("MacroKeys", "reader", "LMacroKeys$Reader;", true)
  | 2 => ("MacroKeys", "search", "LMacroKeys$Search;", true)
  | 3 => ("MacroKeys", "sheets", "[LMacroKeys$Sheet;", true)
  | 4 => ("MacroKeys", "readMacros", "[I", true)
  | 5 => ("MacroKeys", "readLetters", "[I", true)
  | 6 => ("MacroKeys", "readings", "I", false)
  | 7 => ("MacroKeys", "line", "I", false)
  | 8 => ("MacroKeys", "pressed", "I", false)
  | 9 => ("MacroKeys", "traced", "I", false)
  | _ => ("MacroKeys", "latestFault", "I", false)
def tyX6 : Nat → FieldType := fun k => match k with
  | 0 => .object "MacroKeys$Board"
  | 1 => .object "MacroKeys$Reader"
  | 2 => .object "MacroKeys$Search"
  | 3 => .array (.object "MacroKeys$Sheet")
  | 4 => .array .int
  | 5 => .array .int
  | 6 => .int
  | 7 => .int
  | 8 => .int
  | 9 => .int
  | _ => .int
abbrev wsX60 : List Cond := u_ws RX6 TX6 11
theorem nmX6 : ∀ a, a < 11 → ∀ b, b < 11 → a ≠ b → (TX6 a).2.1 ≠ (TX6 b).2.1 := by decide +kernel
theorem tyX6_ok : ∀ k, k < 11 → parseFieldDescriptor (TX6 k).2.2.1 = some (tyX6 k) := by decide +kernel
abbrev cX6_init : ByteArray := prog_1_method_1_code
def yX6_init : MethodName := ⟨RX6, "<init>", "()V"⟩
abbrev cX6_macros : ByteArray := prog_1_method_2_code
def yX6_macros : MethodName := ⟨RX6, "macros", "(IIII)I"⟩
abbrev cX6_ofMacro : ByteArray := prog_1_method_3_code
def yX6_ofMacro : MethodName := ⟨RX6, "ofMacro", "(II)I"⟩
abbrev cX6_key : ByteArray := prog_1_method_4_code
def yX6_key : MethodName := ⟨RX6, "key", "(II)I"⟩
abbrev cX6_times : ByteArray := prog_1_method_5_code
def yX6_times : MethodName := ⟨RX6, "times", "(II)I"⟩
abbrev cX6_press : ByteArray := prog_1_method_6_code
def yX6_press : MethodName := ⟨RX6, "press", "(I)I"⟩
abbrev cX6_play : ByteArray := prog_1_method_7_code
def yX6_play : MethodName := ⟨RX6, "play", "(I)I"⟩
abbrev cX6_letter : ByteArray := prog_1_method_8_code
def yX6_letter : MethodName := ⟨RX6, "letter", "(I)I"⟩
abbrev cX6_clear : ByteArray := prog_1_method_9_code
def yX6_clear : MethodName := ⟨RX6, "clear", "()I"⟩
abbrev cX6_row : ByteArray := prog_1_method_10_code
def yX6_row : MethodName := ⟨RX6, "row", "(IIIII)I"⟩
abbrev cX6_isOfRow : ByteArray := prog_1_method_11_code
def yX6_isOfRow : MethodName := ⟨RX6, "isOfRow", "(I)Z"⟩
abbrev cX6_ofRow : ByteArray := prog_1_method_12_code
def yX6_ofRow : MethodName := ⟨RX6, "ofRow", "(LMacroKeys$Sheet;III)I"⟩
abbrev cX6_fewest : ByteArray := prog_1_method_13_code
def yX6_fewest : MethodName := ⟨RX6, "fewest", "(IIIII)I"⟩
abbrev cX6_lineTold : ByteArray := prog_1_method_14_code
def yX6_lineTold : MethodName := ⟨RX6, "lineTold", "(LMacroKeys$Sheet;II)I"⟩
abbrev cX6_again : ByteArray := prog_1_method_15_code
def yX6_again : MethodName := ⟨RX6, "again", "(II)I"⟩
abbrev cX6_like : ByteArray := prog_1_method_16_code
def yX6_like : MethodName := ⟨RX6, "like", "(II)I"⟩
abbrev cX6_still : ByteArray := prog_1_method_17_code
def yX6_still : MethodName := ⟨RX6, "still", "(I)I"⟩
abbrev cX6_come : ByteArray := prog_1_method_18_code
def yX6_come : MethodName := ⟨RX6, "come", "()I"⟩
abbrev cX6_reading : ByteArray := prog_1_method_19_code
def yX6_reading : MethodName := ⟨RX6, "reading", "(II)I"⟩
abbrev cX6_back : ByteArray := prog_1_method_20_code
def yX6_back : MethodName := ⟨RX6, "back", "(I)I"⟩
abbrev cX6_timings : ByteArray := prog_1_method_21_code
def yX6_timings : MethodName := ⟨RX6, "timings", "(I)I"⟩
abbrev cX6_kinds : ByteArray := prog_1_method_22_code
def yX6_kinds : MethodName := ⟨RX6, "kinds", "(I)I"⟩
abbrev cX6_readingsAreSo : ByteArray := prog_1_method_23_code
def yX6_readingsAreSo : MethodName := ⟨RX6, "readingsAreSo", "()Z"⟩
abbrev cX6_odds : ByteArray := prog_1_method_24_code
def yX6_odds : MethodName := ⟨RX6, "odds", "(II)J"⟩
abbrev cX6_rowsToEmpty : ByteArray := prog_1_method_25_code
def yX6_rowsToEmpty : MethodName := ⟨RX6, "rowsToEmpty", "(II)I"⟩
abbrev cX6_sheet : ByteArray := prog_1_method_26_code
def yX6_sheet : MethodName := ⟨RX6, "sheet", "(III)I"⟩
abbrev cX6_lose : ByteArray := prog_1_method_27_code
def yX6_lose : MethodName := ⟨RX6, "lose", "(I)I"⟩
abbrev cX6_put : ByteArray := prog_1_method_28_code
def yX6_put : MethodName := ⟨RX6, "put", "(III)I"⟩
abbrev cX6_cell : ByteArray := prog_1_method_29_code
def yX6_cell : MethodName := ⟨RX6, "cell", "(III)J"⟩
abbrev cX6_copy : ByteArray := prog_1_method_30_code
def yX6_copy : MethodName := ⟨RX6, "copy", "(IIIII)I"⟩
abbrev cX6_tell : ByteArray := prog_1_method_31_code
def yX6_tell : MethodName := ⟨RX6, "tell", "(I)I"⟩
abbrev cX6_plainTells : ByteArray := prog_1_method_32_code
def yX6_plainTells : MethodName := ⟨RX6, "plainTells", "(LMacroKeys$Macro;)I"⟩
abbrev cX6_broadTells : ByteArray := prog_1_method_33_code
def yX6_broadTells : MethodName := ⟨RX6, "broadTells", "(LMacroKeys$Macro;)I"⟩
abbrev cX6_evenTells : ByteArray := prog_1_method_34_code
def yX6_evenTells : MethodName := ⟨RX6, "evenTells", "(LMacroKeys$Macro;)I"⟩
abbrev cX6_click : ByteArray := prog_1_method_35_code
def yX6_click : MethodName := ⟨RX6, "click", "(I)I"⟩
abbrev cX6_leave : ByteArray := prog_1_method_36_code
def yX6_leave : MethodName := ⟨RX6, "leave", "(I)V"⟩
abbrev cX6_as : ByteArray := prog_1_method_37_code
def yX6_as : MethodName := ⟨RX6, "as", "(II)I"⟩
abbrev cX6_trace : ByteArray := prog_1_method_38_code
def yX6_trace : MethodName := ⟨RX6, "trace", "()I"⟩
abbrev cX6_fault : ByteArray := prog_1_method_39_code
def yX6_fault : MethodName := ⟨RX6, "fault", "()I"⟩
abbrev cX6_many : ByteArray := prog_1_method_40_code
def yX6_many : MethodName := ⟨RX6, "many", "(I)I"⟩
abbrev cX6_sheetOf : ByteArray := prog_1_method_41_code
def yX6_sheetOf : MethodName := ⟨RX6, "sheetOf", "(I)LMacroKeys$Sheet;"⟩
abbrev cX6_isLane : ByteArray := prog_1_method_42_code
def yX6_isLane : MethodName := ⟨RX6, "isLane", "(I)Z"⟩
abbrev cX6_meet : ByteArray := prog_1_method_43_code
def yX6_meet : MethodName := ⟨RX6, "meet", "(I)I"⟩
def RX7 : String := "MacroKeysModel"
def TX7 : u_T := fun k => match k with
  | 0 => ("MacroKeysModel", "fault", "I", false)
  | 1 => ("MacroKeysModel", "trace", "I", false)
  | 2 => ("MacroKeysModel", "sorts", "[I", true)
  | 3 => ("MacroKeysModel", "sheetLong", "[I", true)
  | 4 => ("MacroKeysModel", "cells", "[I", true)
  | 5 => ("MacroKeysModel", "macros", "I", false)
  | 6 => ("MacroKeysModel", "pressed", "I", false)
  | 7 => ("MacroKeysModel", "lineNow", "I", false)
  | 8 => ("MacroKeysModel", "kind", "[I", true)
  | 9 => ("MacroKeysModel", "times", "[I", true)
  | 10 => ("MacroKeysModel", "keysOn", "[I", true)
  | 11 => ("MacroKeysModel", "keys", "[I", true)
  | 12 => ("MacroKeysModel", "at", "I", false)
  | 13 => ("MacroKeysModel", "readMacros", "I", false)
  | 14 => ("MacroKeysModel", "readKind", "[I", true)
  | 15 => ("MacroKeysModel", "readTimes", "[I", true)
  | 16 => ("MacroKeysModel", "readOn", "[I", true)
  | 17 => ("MacroKeysModel", "readKeys", "[I", true)
  | 18 => ("MacroKeysModel", "pressesOf", "[I", true)
  | 19 => ("MacroKeysModel", "letters", "[I", true)
  | 20 => ("MacroKeysModel", "many", "I", false)
  | 21 => ("MacroKeysModel", "cursor", "I", false)
  | 22 => ("MacroKeysModel", "bumps", "I", false)
  | 23 => ("MacroKeysModel", "under", "[I", true)
  | 24 => ("MacroKeysModel", "timesLeft", "[I", true)
  | 25 => ("MacroKeysModel", "nextKey", "[I", true)
  | 26 => ("MacroKeysModel", "firstBump", "I", false)
  | 27 => ("MacroKeysModel", "areFound", "Z", false)
  | 28 => ("MacroKeysModel", "arePlainFound", "Z", false)
  | 29 => ("MacroKeysModel", "makes", "[I", true)
  | 30 => ("MacroKeysModel", "far", "[I", true)
  | 31 => ("MacroKeysModel", "seen", "[I", true)
  | 32 => ("MacroKeysModel", "readings", "I", false)
  | 33 => ("MacroKeysModel", "readMacro", "[I", true)
  | _ => ("MacroKeysModel", "readLetters", "[I", true)
def tyX7 : Nat → FieldType := fun k => match k with
  | 0 => .int
  | 1 => .int
  | 2 => .array .int
  | 3 => .array .int
  | 4 => .array .int
  | 5 => .int
  | 6 => .int
  | 7 => .int
  | 8 => .array .int
  | 9 => .array .int
  | 10 => .array .int
  | 11 => .array .int
  | 12 => .int
  | 13 => .int
  | 14 => .array .int
  | 15 => .array .int
  | 16 => .array .int
  | 17 => .array .int
  | 18 => .array .int
  | 19 => .array .int
  | 20 => .int
  | 21 => .int
  | 22 => .int
  | 23 => .array .int
  | 24 => .array .int
  | 25 => .array .int
  | 26 => .int
  | 27 => .boolean
  | 28 => .boolean
  | 29 => .array .int
  | 30 => .array .int
  | 31 => .array .int
  | 32 => .int
  | 33 => .array .int
  | _ => .array .int
abbrev wsX70 : List Cond := u_ws RX7 TX7 35
theorem nmX7 : ∀ a, a < 35 → ∀ b, b < 35 → a ≠ b → (TX7 a).2.1 ≠ (TX7 b).2.1 := by decide +kernel
theorem tyX7_ok : ∀ k, k < 35 → parseFieldDescriptor (TX7 k).2.2.1 = some (tyX7 k) := by decide +kernel
abbrev cX7_init : ByteArray := prog_9_method_1_code
def yX7_init : MethodName := ⟨RX7, "<init>", "()V"⟩
abbrev cX7_fails : ByteArray := prog_9_method_3_code
def yX7_fails : MethodName := ⟨RX7, "fails", "(I)I"⟩
abbrev cX7_lost : ByteArray := prog_9_method_4_code
def yX7_lost : MethodName := ⟨RX7, "lost", "(I)J"⟩
abbrev cX7_within : ByteArray := prog_9_method_5_code
def yX7_within : MethodName := ⟨RX7, "within", "(III)Z"⟩
abbrev cX7_isSheet : ByteArray := prog_9_method_6_code
def yX7_isSheet : MethodName := ⟨RX7, "isSheet", "(I)Z"⟩
abbrev cX7_isSort : ByteArray := prog_9_method_7_code
def yX7_isSort : MethodName := ⟨RX7, "isSort", "(I)Z"⟩
abbrev cX7_against : ByteArray := prog_9_method_8_code
def yX7_against : MethodName := ⟨RX7, "against", "(IIII)I"⟩
abbrev cX7_isMacro : ByteArray := prog_9_method_9_code
def yX7_isMacro : MethodName := ⟨RX7, "isMacro", "(I)Z"⟩
abbrev cX7_keyBy : ByteArray := prog_9_method_10_code
def yX7_keyBy : MethodName := ⟨RX7, "keyBy", "(II)I"⟩
abbrev cX7_macros : ByteArray := prog_9_method_11_code
def yX7_macros : MethodName := ⟨RX7, "macros", "(IIII)I"⟩
abbrev cX7_readMacrosAll : ByteArray := prog_9_method_12_code
def yX7_readMacrosAll : MethodName := ⟨RX7, "readMacrosAll", "(I)Z"⟩
abbrev cX7_readMacro : ByteArray := prog_9_method_13_code
def yX7_readMacro : MethodName := ⟨RX7, "readMacro", "(II)Z"⟩
abbrev cX7_oftenOf : ByteArray := prog_9_method_14_code
def yX7_oftenOf : MethodName := ⟨RX7, "oftenOf", "(I)I"⟩
abbrev cX7_findPresses : ByteArray := prog_9_method_15_code
def yX7_findPresses : MethodName := ⟨RX7, "findPresses", "()V"⟩
abbrev cX7_ofMacro : ByteArray := prog_9_method_16_code
def yX7_ofMacro : MethodName := ⟨RX7, "ofMacro", "(II)I"⟩
abbrev cX7_key : ByteArray := prog_9_method_17_code
def yX7_key : MethodName := ⟨RX7, "key", "(II)I"⟩
abbrev cX7_times : ByteArray := prog_9_method_18_code
def yX7_times : MethodName := ⟨RX7, "times", "(II)I"⟩
abbrev cX7_linesBelow : ByteArray := prog_9_method_19_code
def yX7_linesBelow : MethodName := ⟨RX7, "linesBelow", "(I)I"⟩
abbrev cX7_lineNumber : ByteArray := prog_9_method_20_code
def yX7_lineNumber : MethodName := ⟨RX7, "lineNumber", "()I"⟩
abbrev cX7_workOn : ByteArray := prog_9_method_21_code
def yX7_workOn : MethodName := ⟨RX7, "workOn", "(I)V"⟩
abbrev cX7_types : ByteArray := prog_9_method_22_code
def yX7_types : MethodName := ⟨RX7, "types", "(I)Z"⟩
abbrev cX7_takes : ByteArray := prog_9_method_23_code
def yX7_takes : MethodName := ⟨RX7, "takes", "()Z"⟩
abbrev cX7_does : ByteArray := prog_9_method_24_code
def yX7_does : MethodName := ⟨RX7, "does", "(I)Z"⟩
abbrev cX7_presses : ByteArray := prog_9_method_25_code
def yX7_presses : MethodName := ⟨RX7, "presses", "(I)Z"⟩
abbrev cX7_plays : ByteArray := prog_9_method_26_code
def yX7_plays : MethodName := ⟨RX7, "plays", "(I)V"⟩
abbrev cX7_press : ByteArray := prog_9_method_27_code
def yX7_press : MethodName := ⟨RX7, "press", "(I)I"⟩
abbrev cX7_play : ByteArray := prog_9_method_28_code
def yX7_play : MethodName := ⟨RX7, "play", "(I)I"⟩
abbrev cX7_letter : ByteArray := prog_9_method_29_code
def yX7_letter : MethodName := ⟨RX7, "letter", "(I)I"⟩
abbrev cX7_clear : ByteArray := prog_9_method_30_code
def yX7_clear : MethodName := ⟨RX7, "clear", "()I"⟩
abbrev cX7_goRow : ByteArray := prog_9_method_31_code
def yX7_goRow : MethodName := ⟨RX7, "goRow", "(II)V"⟩
abbrev cX7_row : ByteArray := prog_9_method_32_code
def yX7_row : MethodName := ⟨RX7, "row", "(IIIII)I"⟩
abbrev cX7_tellRow : ByteArray := prog_9_method_33_code
def yX7_tellRow : MethodName := ⟨RX7, "tellRow", "(I)I"⟩
abbrev cX7_keysThere : ByteArray := prog_9_method_34_code
def yX7_keysThere : MethodName := ⟨RX7, "keysThere", "()I"⟩
abbrev cX7_isKey : ByteArray := prog_9_method_35_code
def yX7_isKey : MethodName := ⟨RX7, "isKey", "(I)Z"⟩
abbrev cX7_findMakes : ByteArray := prog_9_method_36_code
def yX7_findMakes : MethodName := ⟨RX7, "findMakes", "()V"⟩
abbrev cX7_madeBy : ByteArray := prog_9_method_37_code
def yX7_madeBy : MethodName := ⟨RX7, "madeBy", "(II)I"⟩
abbrev cX7_hasTold : ByteArray := prog_9_method_38_code
def yX7_hasTold : MethodName := ⟨RX7, "hasTold", "(II)Z"⟩
abbrev cX7_findFar : ByteArray := prog_9_method_39_code
def yX7_findFar : MethodName := ⟨RX7, "findFar", "(II)V"⟩
abbrev cX7_fewest : ByteArray := prog_9_method_40_code
def yX7_fewest : MethodName := ⟨RX7, "fewest", "(IIIII)I"⟩
abbrev cX7_again : ByteArray := prog_9_method_41_code
def yX7_again : MethodName := ⟨RX7, "again", "(II)I"⟩
abbrev cX7_like : ByteArray := prog_9_method_42_code
def yX7_like : MethodName := ⟨RX7, "like", "(II)I"⟩
abbrev cX7_still : ByteArray := prog_9_method_43_code
def yX7_still : MethodName := ⟨RX7, "still", "(I)I"⟩
abbrev cX7_come : ByteArray := prog_9_method_44_code
def yX7_come : MethodName := ⟨RX7, "come", "()I"⟩
abbrev cX7_reading : ByteArray := prog_9_method_45_code
def yX7_reading : MethodName := ⟨RX7, "reading", "(II)I"⟩
abbrev cX7_back : ByteArray := prog_9_method_46_code
def yX7_back : MethodName := ⟨RX7, "back", "(I)I"⟩
abbrev cX7_areSo : ByteArray := prog_9_method_47_code
def yX7_areSo : MethodName := ⟨RX7, "areSo", "()Z"⟩
abbrev cX7_timings : ByteArray := prog_9_method_48_code
def yX7_timings : MethodName := ⟨RX7, "timings", "(I)I"⟩
abbrev cX7_kinds : ByteArray := prog_9_method_49_code
def yX7_kinds : MethodName := ⟨RX7, "kinds", "(I)I"⟩
abbrev cX7_inLeastTerms : ByteArray := prog_9_method_50_code
def yX7_inLeastTerms : MethodName := ⟨RX7, "inLeastTerms", "(JJI)J"⟩
abbrev cX7_odds : ByteArray := prog_9_method_51_code
def yX7_odds : MethodName := ⟨RX7, "odds", "(II)J"⟩
abbrev cX7_sheet : ByteArray := prog_9_method_52_code
def yX7_sheet : MethodName := ⟨RX7, "sheet", "(III)I"⟩
abbrev cX7_lose : ByteArray := prog_9_method_53_code
def yX7_lose : MethodName := ⟨RX7, "lose", "(I)I"⟩
abbrev cX7_put : ByteArray := prog_9_method_54_code
def yX7_put : MethodName := ⟨RX7, "put", "(III)I"⟩
abbrev cX7_cell : ByteArray := prog_9_method_55_code
def yX7_cell : MethodName := ⟨RX7, "cell", "(III)J"⟩
abbrev cX7_copy : ByteArray := prog_9_method_56_code
def yX7_copy : MethodName := ⟨RX7, "copy", "(IIIII)I"⟩
abbrev cX7_begins : ByteArray := prog_9_method_57_code
def yX7_begins : MethodName := ⟨RX7, "begins", "(I)V"⟩
abbrev cX7_tell : ByteArray := prog_9_method_58_code
def yX7_tell : MethodName := ⟨RX7, "tell", "(I)I"⟩
abbrev cX7_click : ByteArray := prog_9_method_59_code
def yX7_click : MethodName := ⟨RX7, "click", "(I)I"⟩
abbrev cX7_as : ByteArray := prog_9_method_60_code
def yX7_as : MethodName := ⟨RX7, "as", "(II)I"⟩
abbrev cX7_trace : ByteArray := prog_9_method_61_code
def yX7_trace : MethodName := ⟨RX7, "trace", "()I"⟩
abbrev cX7_fault : ByteArray := prog_9_method_62_code
def yX7_fault : MethodName := ⟨RX7, "fault", "()I"⟩
abbrev cX7_many : ByteArray := prog_9_method_63_code
def yX7_many : MethodName := ⟨RX7, "many", "(I)I"⟩
def RJ10 : String := "java/lang/System"
def TJ10 : u_T := fun k => match k with
  | _ => ("", "", "", false)
def tyJ10 : Nat → FieldType := fun k => match k with
  | _ => .int
abbrev wsJ100 : List Cond := u_ws RJ10 TJ10 0
theorem nmJ10 : ∀ a, a < 0 → ∀ b, b < 0 → a ≠ b → (TJ10 a).2.1 ≠ (TJ10 b).2.1 := by decide +kernel
theorem tyJ10_ok : ∀ k, k < 0 → parseFieldDescriptor (TJ10 k).2.2.1 = some (tyJ10 k) := by decide +kernel
def RJ7 : String := "java/util/Arrays"
def TJ7 : u_T := fun k => match k with
  | _ => ("", "", "", false)
def tyJ7 : Nat → FieldType := fun k => match k with
  | _ => .int
abbrev wsJ70 : List Cond := u_ws RJ7 TJ7 0
theorem nmJ7 : ∀ a, a < 0 → ∀ b, b < 0 → a ≠ b → (TJ7 a).2.1 ≠ (TJ7 b).2.1 := by decide +kernel
theorem tyJ7_ok : ∀ k, k < 0 → parseFieldDescriptor (TJ7 k).2.2.1 = some (tyJ7 k) := by decide +kernel
abbrev cJ7_rangeCheck_23922 : ByteArray := prog_11_method_30_code
def yJ7_rangeCheck_23922 : MethodName := ⟨RJ7, "rangeCheck", "(III)V"⟩
abbrev cJ7_fill_53178 : ByteArray := prog_11_method_103_code
def yJ7_fill_53178 : MethodName := ⟨RJ7, "fill", "([II)V"⟩
abbrev cJ7_fill_fda19 : ByteArray := prog_11_method_104_code
def yJ7_fill_fda19 : MethodName := ⟨RJ7, "fill", "([IIII)V"⟩
def RL : String := "MacroKeysLaw"
abbrev cL_law : ByteArray := code
def yL_law : MethodName := ⟨RL, "law", "([I)Z"⟩
def wsL_law_r1 : List Cond := [Cond.classLink RL 7 RX6, Cond.instantiable RX6 11, Cond.initialized RX6, Cond.classLink RL 10 RX7, Cond.instantiable RX7 35, Cond.initialized RX7, Cond.methodLink RL 9 yX6_init, Cond.instanceMethod yX6_init, Cond.code yX6_init cX6_init 1 none, Cond.methodLink RX6 3 objectInit, Cond.instanceMethod objectInit, Cond.code objectInit ⟨#[0xb1]⟩ 1 none, Cond.classLink RX6 9 RX0, Cond.instantiable RX0 3, Cond.initialized RX0, Cond.fieldLink RX6 12 "MacroKeys" "board" "LMacroKeys$Board;", Cond.classLink RX6 18 RX3, Cond.instantiable RX3 4, Cond.initialized RX3, Cond.fieldLink RX6 21 "MacroKeys" "reader" "LMacroKeys$Reader;", Cond.classLink RX6 25 RX4, Cond.instantiable RX4 3, Cond.initialized RX4, Cond.fieldLink RX6 28 "MacroKeys" "search" "LMacroKeys$Search;"]
def wsL_law_r2 : List Cond := [Cond.classLink RX6 32 RX5, Cond.instantiable RX5 3, Cond.initialized RX5, Cond.fieldLink RX6 35 "MacroKeys" "sheets" "[LMacroKeys$Sheet;", Cond.arrayClass .int, Cond.fieldLink RX6 39 "MacroKeys" "readMacros" "[I", Cond.fieldLink RX6 43 "MacroKeys" "readLetters" "[I", Cond.fieldLink RX6 48 "MacroKeys" "line" "I", Cond.fieldLink RX6 52 "MacroKeys" "latestFault" "I", Cond.instanceMethod yX0_init, Cond.code yX0_init cX0_init 1 none, Cond.methodLink RX0 3 objectInit, Cond.classLink RX0 9 RX2, Cond.instantiable RX2 4, Cond.initialized RX2, Cond.fieldLink RX0 12 "MacroKeys$Board" "macros" "[LMacroKeys$Macro;", Cond.fieldLink RX0 20 "MacroKeys$Board" "effects" "[I", Cond.instanceMethod yX2_init, Cond.code yX2_init cX2_init 1 none, Cond.methodLink RX2 3 objectInit, Cond.fieldLink RX2 9 "MacroKeys$Macro" "keys" "[I", Cond.instanceMethod yX3_init, Cond.code yX3_init cX3_init 1 none, Cond.methodLink RX3 3 objectInit]
def wsL_law_r3 : List Cond := [Cond.classLink RX3 9 RX2, Cond.fieldLink RX3 12 "MacroKeys$Reader" "macros" "[LMacroKeys$Macro;", Cond.fieldLink RX3 18 "MacroKeys$Reader" "latest" "LMacroKeys$Macro;", Cond.instanceMethod yX4_init, Cond.code yX4_init cX4_init 1 none, Cond.methodLink RX4 3 objectInit, Cond.fieldLink RX4 11 "MacroKeys$Search" "queue" "[I", Cond.fieldLink RX4 17 "MacroKeys$Search" "cameBy" "[I", Cond.instanceMethod yX5_init, Cond.code yX5_init cX5_init 1 none, Cond.methodLink RX5 3 objectInit, Cond.fieldLink RX5 9 "MacroKeys$Sheet" "lane" "I", Cond.fieldLink RX5 15 "MacroKeys$Sheet" "cells" "[I", Cond.methodLink RL 12 yX7_init, Cond.instanceMethod yX7_init, Cond.code yX7_init cX7_init 1 none, Cond.methodLink RX7 1 objectInit, Cond.fieldLink RX7 9 "MacroKeysModel" "sorts" "[I", Cond.fieldLink RX7 13 "MacroKeysModel" "sheetLong" "[I", Cond.fieldLink RX7 16 "MacroKeysModel" "cells" "[I", Cond.fieldLink RX7 19 "MacroKeysModel" "kind" "[I", Cond.fieldLink RX7 22 "MacroKeysModel" "times" "[I", Cond.fieldLink RX7 25 "MacroKeysModel" "keysOn" "[I", Cond.fieldLink RX7 28 "MacroKeysModel" "keys" "[I"]
def wsL_law_r4 : List Cond := [Cond.fieldLink RX7 31 "MacroKeysModel" "readKind" "[I", Cond.fieldLink RX7 34 "MacroKeysModel" "readTimes" "[I", Cond.fieldLink RX7 37 "MacroKeysModel" "readOn" "[I", Cond.fieldLink RX7 40 "MacroKeysModel" "readKeys" "[I", Cond.fieldLink RX7 43 "MacroKeysModel" "pressesOf" "[I", Cond.fieldLink RX7 46 "MacroKeysModel" "letters" "[I", Cond.fieldLink RX7 49 "MacroKeysModel" "under" "[I", Cond.fieldLink RX7 52 "MacroKeysModel" "timesLeft" "[I", Cond.fieldLink RX7 55 "MacroKeysModel" "nextKey" "[I", Cond.constant RX7 58 (85107), Cond.fieldLink RX7 59 "MacroKeysModel" "makes" "[I", Cond.fieldLink RX7 62 "MacroKeysModel" "far" "[I", Cond.fieldLink RX7 65 "MacroKeysModel" "seen" "[I", Cond.fieldLink RX7 68 "MacroKeysModel" "readMacro" "[I", Cond.fieldLink RX7 71 "MacroKeysModel" "readLetters" "[I", Cond.methodLink RL 13 yX6_macros, Cond.instanceMethod yX6_macros, Cond.selects RX6 yX6_macros yX6_macros, Cond.code yX6_macros cX6_macros 8 (some .int), Cond.fieldLink RX6 79 "MacroKeys" "pressed" "I", Cond.fieldLink RX6 82 "MacroKeys" "readings" "I", Cond.fieldLink RX6 85 "MacroKeys$Board" "many" "I", Cond.methodLink RX6 55 yX6_sheetOf, Cond.instanceMethod yX6_sheetOf]
def wsL_law_r5 : List Cond := [Cond.selects RX6 yX6_sheetOf yX6_sheetOf, Cond.code yX6_sheetOf cX6_sheetOf 2 (some (.object "MacroKeys$Sheet")), Cond.methodLink RX6 59 yX6_isLane, Cond.static yX6_isLane, Cond.code yX6_isLane cX6_isLane 1 (some .boolean), Cond.methodLink RX6 63 yX5_faultOf, Cond.instanceMethod yX5_faultOf, Cond.selects RX5 yX5_faultOf yX5_faultOf, Cond.code yX5_faultOf cX5_faultOf 4 (some .int), Cond.methodLink RX5 28 yX5_hasAll, Cond.instanceMethod yX5_hasAll, Cond.selects RX5 yX5_hasAll yX5_hasAll, Cond.code yX5_hasAll cX5_hasAll 3 (some .boolean), Cond.fieldLink RX5 19 "MacroKeys$Sheet" "count" "I", Cond.methodLink RX6 67 yX6_meet, Cond.instanceMethod yX6_meet, Cond.selects RX6 yX6_meet yX6_meet, Cond.code yX6_meet cX6_meet 2 (some .int), Cond.methodLink RX6 71 yX3_firstFault, Cond.instanceMethod yX3_firstFault, Cond.selects RX3 yX3_firstFault yX3_firstFault, Cond.code yX3_firstFault cX3_firstFault 5 (some .int), Cond.fieldLink RX3 22 "MacroKeys$Reader" "stage" "I", Cond.fieldLink RX3 26 "MacroKeys$Reader" "many" "I"]
def wsL_law_r6 : List Cond := [Cond.fieldLink RX3 29 "MacroKeys$Sheet" "cells" "[I", Cond.methodLink RX3 35 yX3_goesOn, Cond.instanceMethod yX3_goesOn, Cond.selects RX3 yX3_goesOn yX3_goesOn, Cond.code yX3_goesOn cX3_goesOn 2 (some .boolean), Cond.methodLink RX3 43 yX3_begins, Cond.instanceMethod yX3_begins, Cond.selects RX3 yX3_begins yX3_begins, Cond.code yX3_begins cX3_begins 2 (some .boolean), Cond.methodLink RX3 46 yX3_marks, Cond.instanceMethod yX3_marks, Cond.selects RX3 yX3_marks yX3_marks, Cond.code yX3_marks cX3_marks 2 (some .boolean), Cond.fieldLink RX3 58 "MacroKeys$Macro" "count" "I", Cond.methodLink RX3 49 yX3_tellsKind, Cond.instanceMethod yX3_tellsKind, Cond.selects RX3 yX3_tellsKind yX3_tellsKind, Cond.code yX3_tellsKind cX3_tellsKind 2 (some .boolean), Cond.fieldLink RX3 61 "MacroKeys$Macro" "kind" "I", Cond.methodLink RX3 52 yX3_tellsTimes, Cond.instanceMethod yX3_tellsTimes, Cond.selects RX3 yX3_tellsTimes yX3_tellsTimes, Cond.code yX3_tellsTimes cX3_tellsTimes 2 (some .boolean), Cond.fieldLink RX3 64 "MacroKeys$Macro" "timing" "I"]
def wsL_law_r7 : List Cond := [Cond.methodLink RX3 55 yX3_addsKey, Cond.instanceMethod yX3_addsKey, Cond.selects RX3 yX3_addsKey yX3_addsKey, Cond.code yX3_addsKey cX3_addsKey 3 (some .boolean), Cond.fieldLink RX3 71 "MacroKeys$Macro" "keys" "[I", Cond.methodLink RX3 67 yX3_keyOf, Cond.instanceMethod yX3_keyOf, Cond.selects RX3 yX3_keyOf yX3_keyOf, Cond.code yX3_keyOf cX3_keyOf 3 (some .int), Cond.methodLink RX3 39 yX3_hasKeys, Cond.instanceMethod yX3_hasKeys, Cond.selects RX3 yX3_hasKeys yX3_hasKeys, Cond.code yX3_hasKeys cX3_hasKeys 1 (some .boolean), Cond.methodLink RX6 75 yX0_become, Cond.instanceMethod yX0_become, Cond.selects RX0 yX0_become yX0_become, Cond.code yX0_become cX0_become 3 none, Cond.fieldLink RX0 24 "MacroKeys$Reader" "many" "I", Cond.fieldLink RX0 30 "MacroKeys$Board" "many" "I", Cond.fieldLink RX0 31 "MacroKeys$Reader" "macros" "[LMacroKeys$Macro;", Cond.methodLink RX0 32 yX2_become, Cond.instanceMethod yX2_become, Cond.selects RX2 yX2_become yX2_become, Cond.code yX2_become cX2_become 2 none]
def wsL_law_r8 : List Cond := [Cond.fieldLink RX2 15 "MacroKeys$Macro" "kind" "I", Cond.fieldLink RX2 19 "MacroKeys$Macro" "timing" "I", Cond.fieldLink RX2 22 "MacroKeys$Macro" "count" "I", Cond.methodLink RX2 25 arraycopyName, Cond.native arraycopyName, Cond.static arraycopyName, Cond.initialized "java/lang/System", Cond.methodLink RX0 36 yX0_forget, Cond.instanceMethod yX0_forget, Cond.selects RX0 yX0_forget yX0_forget, Cond.code yX0_forget cX0_forget 2 none, Cond.methodLink RX0 54 yJ7_fill_fda19, Cond.static yJ7_fill_fda19, Cond.initialized RJ7, Cond.code yJ7_fill_fda19 cJ7_fill_fda19 5 none, Cond.methodLink RJ7 13 yJ7_rangeCheck_23922, Cond.static yJ7_rangeCheck_23922, Cond.code yJ7_rangeCheck_23922 cJ7_rangeCheck_23922 3 none, Cond.methodLink RL 17 yX7_macros, Cond.instanceMethod yX7_macros, Cond.selects RX7 yX7_macros yX7_macros, Cond.code yX7_macros cX7_macros 9 (some .int), Cond.fieldLink RX7 74 "MacroKeysModel" "fault" "I", Cond.fieldLink RX7 102 "MacroKeysModel" "at" "I"]
def wsL_law_r9 : List Cond := [Cond.fieldLink RX7 108 "MacroKeysModel" "readMacros" "I", Cond.fieldLink RX7 84 "MacroKeysModel" "macros" "I", Cond.fieldLink RX7 111 "MacroKeysModel" "lineNow" "I", Cond.fieldLink RX7 114 "MacroKeysModel" "pressed" "I", Cond.fieldLink RX7 117 "MacroKeysModel" "readings" "I", Cond.fieldLink RX7 120 "MacroKeysModel" "areFound" "Z", Cond.methodLink RX7 87 yX7_isSheet, Cond.static yX7_isSheet, Cond.code yX7_isSheet cX7_isSheet 1 (some .boolean), Cond.methodLink RX7 80 yX7_within, Cond.static yX7_within, Cond.code yX7_within cX7_within 3 (some .boolean), Cond.methodLink RX7 91 yX7_isSort, Cond.static yX7_isSort, Cond.code yX7_isSort cX7_isSort 1 (some .boolean), Cond.methodLink RX7 94 yX7_against, Cond.instanceMethod yX7_against, Cond.selects RX7 yX7_against yX7_against, Cond.code yX7_against cX7_against 5 (some .int), Cond.methodLink RX7 98 yX7_fails, Cond.instanceMethod yX7_fails, Cond.selects RX7 yX7_fails yX7_fails, Cond.code yX7_fails cX7_fails 2 (some .int), Cond.methodLink RX7 105 yX7_readMacrosAll]
def wsL_law_r10 : List Cond := [Cond.instanceMethod yX7_readMacrosAll, Cond.selects RX7 yX7_readMacrosAll yX7_readMacrosAll, Cond.code yX7_readMacrosAll cX7_readMacrosAll 2 (some .boolean), Cond.methodLink RX7 124 yX7_readMacro, Cond.instanceMethod yX7_readMacro, Cond.selects RX7 yX7_readMacro yX7_readMacro, Cond.code yX7_readMacro cX7_readMacro 4 (some .boolean), Cond.methodLink RX7 127 yX7_keyBy, Cond.static yX7_keyBy, Cond.code yX7_keyBy cX7_keyBy 2 (some .int), Cond.methodLink RL 18 yX6_ofMacro, Cond.instanceMethod yX6_ofMacro, Cond.selects RX6 yX6_ofMacro yX6_ofMacro, Cond.code yX6_ofMacro cX6_ofMacro 4 (some .int), Cond.fieldLink RX6 92 "MacroKeys$Macro" "kind" "I", Cond.fieldLink RX6 97 "MacroKeys$Macro" "timing" "I", Cond.fieldLink RX6 104 "MacroKeys$Macro" "count" "I", Cond.methodLink RX6 88 yX0_macroOf, Cond.instanceMethod yX0_macroOf, Cond.selects RX0 yX0_macroOf yX0_macroOf, Cond.code yX0_macroOf cX0_macroOf 2 (some (.object "MacroKeys$Macro")), Cond.methodLink RX6 100 yX2_often, Cond.instanceMethod yX2_often, Cond.selects RX2 yX2_often yX2_often]
def wsL_law_r11 : List Cond := [Cond.code yX2_often cX2_often 1 (some .int), Cond.instanceMethod yX0_pressesOf, Cond.selects RX0 yX0_pressesOf yX0_pressesOf, Cond.code yX0_pressesOf cX0_pressesOf 6 (some .int), Cond.fieldLink RX0 60 "MacroKeys$Macro" "count" "I", Cond.fieldLink RX0 63 "MacroKeys$Macro" "keys" "[I", Cond.methodLink RX0 44 yX0_macroOf, Cond.methodLink RX0 66 yX0_pressesOf, Cond.methodLink RX0 70 yX2_often, Cond.methodLink RL 22 yX7_ofMacro, Cond.instanceMethod yX7_ofMacro, Cond.selects RX7 yX7_ofMacro yX7_ofMacro, Cond.code yX7_ofMacro cX7_ofMacro 3 (some .int), Cond.methodLink RX7 134 yX7_isMacro, Cond.instanceMethod yX7_isMacro, Cond.selects RX7 yX7_isMacro yX7_isMacro, Cond.code yX7_isMacro cX7_isMacro 2 (some .boolean), Cond.methodLink RX7 131 yX7_oftenOf, Cond.instanceMethod yX7_oftenOf, Cond.selects RX7 yX7_oftenOf yX7_oftenOf, Cond.code yX7_oftenOf cX7_oftenOf 2 (some .int), Cond.methodLink RX7 137 yX7_findPresses, Cond.instanceMethod yX7_findPresses, Cond.selects RX7 yX7_findPresses yX7_findPresses]
def wsL_law_r12 : List Cond := [Cond.code yX7_findPresses cX7_findPresses 5 none, Cond.methodLink RL 23 yX6_key, Cond.instanceMethod yX6_key, Cond.selects RX6 yX6_key yX6_key, Cond.code yX6_key cX6_key 4 (some .int), Cond.fieldLink RX6 110 "MacroKeys$Macro" "keys" "[I", Cond.methodLink RL 26 yX7_key, Cond.instanceMethod yX7_key, Cond.selects RX7 yX7_key yX7_key, Cond.code yX7_key cX7_key 3 (some .int), Cond.methodLink RL 27 yX6_times, Cond.instanceMethod yX6_times, Cond.selects RX6 yX6_times yX6_times, Cond.code yX6_times cX6_times 5 (some .int), Cond.methodLink RX6 113 yX0_change, Cond.instanceMethod yX0_change, Cond.selects RX0 yX0_change yX0_change, Cond.code yX0_change cX0_change 5 none, Cond.fieldLink RX0 48 "MacroKeys$Macro" "kind" "I", Cond.fieldLink RX0 51 "MacroKeys$Macro" "timing" "I", Cond.methodLink RL 30 yX7_times, Cond.instanceMethod yX7_times, Cond.selects RX7 yX7_times yX7_times, Cond.code yX7_times cX7_times 4 (some .int)]
def wsL_law_r13 : List Cond := [Cond.methodLink RL 31 yX6_press, Cond.instanceMethod yX6_press, Cond.selects RX6 yX6_press yX6_press, Cond.code yX6_press cX6_press 3 (some .int), Cond.methodLink RX6 117 yX1_after, Cond.static yX1_after, Cond.initialized RX1, Cond.code yX1_after cX1_after 6 (some .int), Cond.fieldLink RX1 9 "MacroKeys$Line" "FIRST" "[I", Cond.methodLink RX1 15 yX1_countOf, Cond.static yX1_countOf, Cond.code yX1_countOf cX1_countOf 2 (some .int), Cond.methodLink RX1 26 yX1_of, Cond.static yX1_of, Cond.code yX1_of cX1_of 3 (some .int), Cond.methodLink RX1 30 yX1_without, Cond.static yX1_without, Cond.code yX1_without cX1_without 3 (some .int), Cond.methodLink RX1 33 yX1_with, Cond.static yX1_with, Cond.code yX1_with cX1_with 4 (some .int), Cond.methodLink RL 35 yX7_press, Cond.instanceMethod yX7_press, Cond.selects RX7 yX7_press yX7_press]
def wsL_law_r14 : List Cond := [Cond.code yX7_press cX7_press 3 (some .int), Cond.methodLink RX7 165 yX7_workOn, Cond.instanceMethod yX7_workOn, Cond.selects RX7 yX7_workOn yX7_workOn, Cond.code yX7_workOn cX7_workOn 4 none, Cond.fieldLink RX7 140 "MacroKeysModel" "many" "I", Cond.fieldLink RX7 146 "MacroKeysModel" "cursor" "I", Cond.methodLink RX7 143 yX7_linesBelow, Cond.static yX7_linesBelow, Cond.code yX7_linesBelow cX7_linesBelow 4 (some .int), Cond.methodLink RX7 162 yX7_presses, Cond.instanceMethod yX7_presses, Cond.selects RX7 yX7_presses yX7_presses, Cond.code yX7_presses cX7_presses 3 (some .boolean), Cond.fieldLink RX7 159 "MacroKeysModel" "bumps" "I", Cond.methodLink RX7 156 yX7_does, Cond.instanceMethod yX7_does, Cond.selects RX7 yX7_does yX7_does, Cond.code yX7_does cX7_does 3 (some .boolean), Cond.methodLink RX7 149 yX7_types, Cond.instanceMethod yX7_types, Cond.selects RX7 yX7_types yX7_types, Cond.code yX7_types cX7_types 3 (some .boolean), Cond.methodLink RX7 152 yX7_takes]
def wsL_law_r15 : List Cond := [Cond.instanceMethod yX7_takes, Cond.selects RX7 yX7_takes yX7_takes, Cond.code yX7_takes cX7_takes 2 (some .boolean), Cond.methodLink RX7 169 yX7_lineNumber, Cond.instanceMethod yX7_lineNumber, Cond.selects RX7 yX7_lineNumber yX7_lineNumber, Cond.code yX7_lineNumber cX7_lineNumber 3 (some .int), Cond.methodLink RL 36 yX6_play, Cond.instanceMethod yX6_play, Cond.selects RX6 yX6_play yX6_play, Cond.code yX6_play cX6_play 3 (some .int), Cond.instanceMethod yX0_effectOf, Cond.selects RX0 yX0_effectOf yX0_effectOf, Cond.code yX0_effectOf cX0_effectOf 6 (some .int), Cond.methodLink RX0 80 yX1_after, Cond.methodLink RX0 83 yX0_played, Cond.instanceMethod yX0_played, Cond.selects RX0 yX0_played yX0_played, Cond.code yX0_played cX0_played 11 (some .int), Cond.methodLink RX0 73 yX0_effectOf, Cond.methodLink RX0 87 yX0_bumpsOf, Cond.static yX0_bumpsOf, Cond.code yX0_bumpsOf cX0_bumpsOf 1 (some .int), Cond.methodLink RX0 77 yX0_lineOf]
def wsL_law_r16 : List Cond := [Cond.static yX0_lineOf, Cond.code yX0_lineOf cX0_lineOf 1 (some .int), Cond.methodLink RX6 124 yX0_lineOf, Cond.methodLink RX6 127 yX0_bumpsOf, Cond.methodLink RL 39 yX7_play, Cond.instanceMethod yX7_play, Cond.selects RX7 yX7_play yX7_play, Cond.code yX7_play cX7_play 2 (some .int), Cond.methodLink RX7 173 yX7_plays, Cond.instanceMethod yX7_plays, Cond.selects RX7 yX7_plays yX7_plays, Cond.code yX7_plays cX7_plays 5 none, Cond.methodLink RL 40 yX6_letter, Cond.instanceMethod yX6_letter, Cond.selects RX6 yX6_letter yX6_letter, Cond.code yX6_letter cX6_letter 2 (some .int), Cond.methodLink RX6 130 yX1_countOf, Cond.methodLink RX6 133 yX1_letterAt, Cond.static yX1_letterAt, Cond.code yX1_letterAt cX1_letterAt 2 (some .int), Cond.methodLink RX1 19 yX1_lettersOf, Cond.static yX1_lettersOf, Cond.code yX1_lettersOf cX1_lettersOf 2 (some .int), Cond.methodLink RL 43 yX7_letter]
def wsL_law_r17 : List Cond := [Cond.instanceMethod yX7_letter, Cond.selects RX7 yX7_letter yX7_letter, Cond.code yX7_letter cX7_letter 2 (some .int), Cond.methodLink RL 44 yX6_clear, Cond.instanceMethod yX6_clear, Cond.selects RX6 yX6_clear yX6_clear, Cond.code yX6_clear cX6_clear 2 (some .int), Cond.methodLink RL 48 yX7_clear, Cond.instanceMethod yX7_clear, Cond.selects RX7 yX7_clear yX7_clear, Cond.code yX7_clear cX7_clear 1 (some .int), Cond.methodLink RL 49 yX6_row, Cond.instanceMethod yX6_row, Cond.selects RX6 yX6_row yX6_row, Cond.code yX6_row cX6_row 8 (some .int), Cond.methodLink RX6 136 yX6_isOfRow, Cond.static yX6_isOfRow, Cond.code yX6_isOfRow cX6_isOfRow 1 (some .boolean), Cond.methodLink RX6 139 yX5_allWithin, Cond.instanceMethod yX5_allWithin, Cond.selects RX5 yX5_allWithin yX5_allWithin, Cond.code yX5_allWithin cX5_allWithin 6 (some .boolean), Cond.methodLink RX6 143 yX0_keysThereAre, Cond.instanceMethod yX0_keysThereAre]
def wsL_law_r18 : List Cond := [Cond.selects RX0 yX0_keysThereAre yX0_keysThereAre, Cond.code yX0_keysThereAre cX0_keysThereAre 1 (some .int), Cond.methodLink RX6 146 yX6_ofRow, Cond.instanceMethod yX6_ofRow, Cond.selects RX6 yX6_ofRow yX6_ofRow, Cond.code yX6_ofRow cX6_ofRow 12 (some .int), Cond.fieldLink RX6 150 "MacroKeys$Sheet" "cells" "[I", Cond.methodLink RX6 153 yX1_cursorOf, Cond.static yX1_cursorOf, Cond.code yX1_cursorOf cX1_cursorOf 2 (some .int), Cond.methodLink RX6 156 yX1_digitsOf, Cond.static yX1_digitsOf, Cond.code yX1_digitsOf cX1_digitsOf 4 (some .int), Cond.methodLink RX1 22 yX1_letterAt, Cond.methodLink RL 53 yX7_row, Cond.instanceMethod yX7_row, Cond.selects RX7 yX7_row yX7_row, Cond.code yX7_row cX7_row 10 (some .int), Cond.methodLink RX7 179 yX7_goRow, Cond.instanceMethod yX7_goRow, Cond.selects RX7 yX7_goRow yX7_goRow, Cond.code yX7_goRow cX7_goRow 5 none, Cond.fieldLink RX7 176 "MacroKeysModel" "firstBump" "I", Cond.methodLink RX7 183 yX7_tellRow]
def wsL_law_r19 : List Cond := [Cond.instanceMethod yX7_tellRow, Cond.selects RX7 yX7_tellRow yX7_tellRow, Cond.code yX7_tellRow cX7_tellRow 4 (some .int), Cond.methodLink RL 54 yX6_fewest, Cond.instanceMethod yX6_fewest, Cond.selects RX6 yX6_fewest yX6_fewest, Cond.code yX6_fewest cX6_fewest 9 (some .int), Cond.methodLink RX6 159 yX6_lineTold, Cond.static yX6_lineTold, Cond.code yX6_lineTold cX6_lineTold 5 (some .int), Cond.methodLink RX6 172 yX1_of, Cond.methodLink RX6 162 yX4_find, Cond.instanceMethod yX4_find, Cond.selects RX4 yX4_find yX4_find, Cond.code yX4_find cX4_find 9 (some .int), Cond.fieldLink RX4 24 "MacroKeys$Search" "reached" "I", Cond.methodLink RX4 28 yJ7_fill_53178, Cond.static yJ7_fill_53178, Cond.code yJ7_fill_53178 cJ7_fill_53178 4 none, Cond.methodLink RX4 34 yX4_queueUp, Cond.instanceMethod yX4_queueUp, Cond.selects RX4 yX4_queueUp yX4_queueUp, Cond.code yX4_queueUp cX4_queueUp 3 none, Cond.methodLink RX4 38 yX4_hasLetters]
def wsL_law_r20 : List Cond := [Cond.static yX4_hasLetters, Cond.code yX4_hasLetters cX4_hasLetters 2 (some .boolean), Cond.methodLink RX4 52 yX1_after, Cond.methodLink RX4 42 yX0_keysThereAre, Cond.methodLink RX4 48 yX0_lineAfter, Cond.instanceMethod yX0_lineAfter, Cond.selects RX0 yX0_lineAfter yX0_lineAfter, Cond.code yX0_lineAfter cX0_lineAfter 3 (some .int), Cond.methodLink RX6 166 yX4_stepsTo, Cond.instanceMethod yX4_stepsTo, Cond.selects RX4 yX4_stepsTo yX4_stepsTo, Cond.code yX4_stepsTo cX4_stepsTo 4 (some .int), Cond.methodLink RX6 169 yX4_keyTo, Cond.instanceMethod yX4_keyTo, Cond.selects RX4 yX4_keyTo yX4_keyTo, Cond.code yX4_keyTo cX4_keyTo 6 (some .int), Cond.methodLink RX4 55 yX4_stepsTo, Cond.methodLink RL 57 yX7_fewest, Cond.instanceMethod yX7_fewest, Cond.selects RX7 yX7_fewest yX7_fewest, Cond.code yX7_fewest cX7_fewest 11 (some .int), Cond.methodLink RX7 198 yX7_findMakes, Cond.instanceMethod yX7_findMakes, Cond.selects RX7 yX7_findMakes yX7_findMakes]
def wsL_law_r21 : List Cond := [Cond.code yX7_findMakes cX7_findMakes 3 none, Cond.fieldLink RX7 189 "MacroKeysModel" "arePlainFound" "Z", Cond.methodLink RX7 192 yX7_madeBy, Cond.instanceMethod yX7_madeBy, Cond.selects RX7 yX7_madeBy yX7_madeBy, Cond.code yX7_madeBy cX7_madeBy 7 (some .int), Cond.methodLink RX7 201 yX7_findFar, Cond.instanceMethod yX7_findFar, Cond.selects RX7 yX7_findFar yX7_findFar, Cond.code yX7_findFar cX7_findFar 8 none, Cond.methodLink RX7 195 yX7_hasTold, Cond.instanceMethod yX7_hasTold, Cond.selects RX7 yX7_hasTold yX7_hasTold, Cond.code yX7_hasTold cX7_hasTold 5 (some .boolean), Cond.methodLink RX7 186 yX7_keysThere, Cond.instanceMethod yX7_keysThere, Cond.selects RX7 yX7_keysThere yX7_keysThere, Cond.code yX7_keysThere cX7_keysThere 1 (some .int), Cond.methodLink RL 58 yX6_again, Cond.instanceMethod yX6_again, Cond.selects RX6 yX6_again yX6_again, Cond.code yX6_again cX6_again 3 (some .int), Cond.methodLink RX6 175 yX4_aheadOfRound, Cond.instanceMethod yX4_aheadOfRound]
def wsL_law_r22 : List Cond := [Cond.selects RX4 yX4_aheadOfRound yX4_aheadOfRound, Cond.code yX4_aheadOfRound cX4_aheadOfRound 5 (some .int), Cond.methodLink RX4 59 yX4_playOn, Cond.instanceMethod yX4_playOn, Cond.selects RX4 yX4_playOn yX4_playOn, Cond.code yX4_playOn cX4_playOn 5 (some .int), Cond.methodLink RX6 179 yX4_round, Cond.instanceMethod yX4_round, Cond.selects RX4 yX4_round yX4_round, Cond.code yX4_round cX4_round 5 (some .int), Cond.methodLink RL 61 yX7_again, Cond.instanceMethod yX7_again, Cond.selects RX7 yX7_again yX7_again, Cond.code yX7_again cX7_again 5 (some .int), Cond.methodLink RL 62 yX6_like, Cond.instanceMethod yX6_like, Cond.selects RX6 yX6_like yX6_like, Cond.code yX6_like cX6_like 5 (some .int), Cond.methodLink RX6 182 yX0_isKey, Cond.instanceMethod yX0_isKey, Cond.selects RX0 yX0_isKey yX0_isKey, Cond.code yX0_isKey cX0_isKey 2 (some .boolean), Cond.methodLink RX0 40 yX0_keysThereAre, Cond.methodLink RX6 185 yX0_lineAfter]
def wsL_law_r23 : List Cond := [Cond.methodLink RL 65 yX7_like, Cond.instanceMethod yX7_like, Cond.selects RX7 yX7_like yX7_like, Cond.code yX7_like cX7_like 5 (some .int), Cond.methodLink RX7 204 yX7_isKey, Cond.instanceMethod yX7_isKey, Cond.selects RX7 yX7_isKey yX7_isKey, Cond.code yX7_isKey cX7_isKey 2 (some .boolean), Cond.methodLink RL 66 yX6_still, Cond.instanceMethod yX6_still, Cond.selects RX6 yX6_still yX6_still, Cond.code yX6_still cX6_still 4 (some .int), Cond.methodLink RL 69 yX7_still, Cond.instanceMethod yX7_still, Cond.selects RX7 yX7_still yX7_still, Cond.code yX7_still cX7_still 4 (some .int), Cond.methodLink RL 70 yX6_come, Cond.instanceMethod yX6_come, Cond.selects RX6 yX6_come yX6_come, Cond.code yX6_come cX6_come 1 (some .int), Cond.methodLink RX6 188 yX4_reachable, Cond.instanceMethod yX4_reachable, Cond.selects RX4 yX4_reachable yX4_reachable, Cond.code yX4_reachable cX4_reachable 4 (some .int)]
def wsL_law_r24 : List Cond := [Cond.methodLink RX4 20 yX4_find, Cond.methodLink RL 73 yX7_come, Cond.instanceMethod yX7_come, Cond.selects RX7 yX7_come yX7_come, Cond.code yX7_come cX7_come 5 (some .int), Cond.methodLink RL 74 yX6_reading, Cond.instanceMethod yX6_reading, Cond.selects RX6 yX6_reading yX6_reading, Cond.code yX6_reading cX6_reading 3 (some .int), Cond.methodLink RL 77 yX7_reading, Cond.instanceMethod yX7_reading, Cond.selects RX7 yX7_reading yX7_reading, Cond.code yX7_reading cX7_reading 3 (some .int), Cond.methodLink RL 78 yX6_back, Cond.instanceMethod yX6_back, Cond.selects RX6 yX6_back yX6_back, Cond.code yX6_back cX6_back 2 (some .int), Cond.methodLink RL 81 yX7_back, Cond.instanceMethod yX7_back, Cond.selects RX7 yX7_back yX7_back, Cond.code yX7_back cX7_back 2 (some .int), Cond.methodLink RL 82 yX6_timings, Cond.instanceMethod yX6_timings, Cond.selects RX6 yX6_timings yX6_timings]
def wsL_law_r25 : List Cond := [Cond.code yX6_timings cX6_timings 6 (some .int), Cond.methodLink RX6 191 yX6_readingsAreSo, Cond.instanceMethod yX6_readingsAreSo, Cond.selects RX6 yX6_readingsAreSo yX6_readingsAreSo, Cond.code yX6_readingsAreSo cX6_readingsAreSo 3 (some .boolean), Cond.methodLink RL 85 yX7_timings, Cond.instanceMethod yX7_timings, Cond.selects RX7 yX7_timings yX7_timings, Cond.code yX7_timings cX7_timings 5 (some .int), Cond.methodLink RX7 207 yX7_areSo, Cond.instanceMethod yX7_areSo, Cond.selects RX7 yX7_areSo yX7_areSo, Cond.code yX7_areSo cX7_areSo 2 (some .boolean), Cond.methodLink RL 86 yX6_kinds, Cond.instanceMethod yX6_kinds, Cond.selects RX6 yX6_kinds yX6_kinds, Cond.code yX6_kinds cX6_kinds 6 (some .int), Cond.methodLink RL 89 yX7_kinds, Cond.instanceMethod yX7_kinds, Cond.selects RX7 yX7_kinds yX7_kinds, Cond.code yX7_kinds cX7_kinds 5 (some .int), Cond.methodLink RL 90 yX6_odds, Cond.instanceMethod yX6_odds, Cond.selects RX6 yX6_odds yX6_odds]
def wsL_law_r26 : List Cond := [Cond.code yX6_odds cX6_odds 5 (some .long), Cond.constantLong RX6 195 (-9223372036854775808), Cond.methodLink RX6 197 yX6_rowsToEmpty, Cond.static yX6_rowsToEmpty, Cond.code yX6_rowsToEmpty cX6_rowsToEmpty 4 (some .int), Cond.methodLink RL 94 yX7_odds, Cond.instanceMethod yX7_odds, Cond.selects RX7 yX7_odds yX7_odds, Cond.code yX7_odds cX7_odds 7 (some .long), Cond.constantLong RX7 78 (-9223372036854775808), Cond.methodLink RX7 210 yX7_inLeastTerms, Cond.static yX7_inLeastTerms, Cond.code yX7_inLeastTerms cX7_inLeastTerms 11 (some .long), Cond.methodLink RL 95 yX6_sheet, Cond.instanceMethod yX6_sheet, Cond.selects RX6 yX6_sheet yX6_sheet, Cond.code yX6_sheet cX6_sheet 5 (some .int), Cond.methodLink RX6 200 yX5_renew, Cond.instanceMethod yX5_renew, Cond.selects RX5 yX5_renew yX5_renew, Cond.code yX5_renew cX5_renew 3 none, Cond.methodLink RX5 22 yJ7_fill_53178, Cond.methodLink RL 99 yX7_sheet, Cond.instanceMethod yX7_sheet]
def wsL_law_r27 : List Cond := [Cond.selects RX7 yX7_sheet yX7_sheet, Cond.code yX7_sheet cX7_sheet 5 (some .int), Cond.methodLink RL 100 yX6_lose, Cond.instanceMethod yX6_lose, Cond.selects RX6 yX6_lose yX6_lose, Cond.code yX6_lose cX6_lose 4 (some .int), Cond.fieldLink RX6 204 "MacroKeys$Sheet" "lane" "I", Cond.methodLink RL 103 yX7_lose, Cond.instanceMethod yX7_lose, Cond.selects RX7 yX7_lose yX7_lose, Cond.code yX7_lose cX7_lose 3 (some .int), Cond.methodLink RL 104 yX6_put, Cond.instanceMethod yX6_put, Cond.selects RX6 yX6_put yX6_put, Cond.code yX6_put cX6_put 6 (some .int), Cond.methodLink RX6 207 yX5_cut, Cond.instanceMethod yX5_cut, Cond.selects RX5 yX5_cut yX5_cut, Cond.code yX5_cut cX5_cut 2 (some .int), Cond.methodLink RL 107 yX7_put, Cond.instanceMethod yX7_put, Cond.selects RX7 yX7_put yX7_put, Cond.code yX7_put cX7_put 4 (some .int), Cond.methodLink RL 108 yX6_cell]
def wsL_law_r28 : List Cond := [Cond.instanceMethod yX6_cell, Cond.selects RX6 yX6_cell yX6_cell, Cond.code yX6_cell cX6_cell 5 (some .long), Cond.methodLink RL 112 yX7_cell, Cond.instanceMethod yX7_cell, Cond.selects RX7 yX7_cell yX7_cell, Cond.code yX7_cell cX7_cell 4 (some .long), Cond.methodLink RX7 214 yX7_lost, Cond.instanceMethod yX7_lost, Cond.selects RX7 yX7_lost yX7_lost, Cond.code yX7_lost cX7_lost 2 (some .long), Cond.methodLink RL 113 yX6_copy, Cond.instanceMethod yX6_copy, Cond.selects RX6 yX6_copy yX6_copy, Cond.code yX6_copy cX6_copy 8 (some .int), Cond.methodLink RX6 214 arraycopyName, Cond.methodLink RX6 210 yX5_hasAll, Cond.methodLink RL 116 yX7_copy, Cond.instanceMethod yX7_copy, Cond.selects RX7 yX7_copy yX7_copy, Cond.code yX7_copy cX7_copy 10 (some .int), Cond.methodLink RL 117 yX6_tell, Cond.instanceMethod yX6_tell, Cond.selects RX6 yX6_tell yX6_tell]
def wsL_law_r29 : List Cond := [Cond.code yX6_tell cX6_tell 3 (some .int), Cond.methodLink RX6 220 yX6_evenTells, Cond.instanceMethod yX6_evenTells, Cond.selects RX6 yX6_evenTells yX6_evenTells, Cond.code yX6_evenTells cX6_evenTells 3 (some .int), Cond.methodLink RX6 230 yX6_leave, Cond.instanceMethod yX6_leave, Cond.selects RX6 yX6_leave yX6_leave, Cond.code yX6_leave cX6_leave 2 none, Cond.fieldLink RX6 234 "MacroKeys" "traced" "I", Cond.methodLink RX6 224 yX6_broadTells, Cond.instanceMethod yX6_broadTells, Cond.selects RX6 yX6_broadTells yX6_broadTells, Cond.code yX6_broadTells cX6_broadTells 2 (some .int), Cond.methodLink RX6 227 yX6_plainTells, Cond.instanceMethod yX6_plainTells, Cond.selects RX6 yX6_plainTells yX6_plainTells, Cond.code yX6_plainTells cX6_plainTells 2 (some .int), Cond.methodLink RL 120 yX7_tell, Cond.instanceMethod yX7_tell, Cond.selects RX7 yX7_tell yX7_tell, Cond.code yX7_tell cX7_tell 3 (some .int), Cond.methodLink RX7 221 yX7_begins, Cond.instanceMethod yX7_begins]
def wsL_law_r30 : List Cond := [Cond.selects RX7 yX7_begins yX7_begins, Cond.code yX7_begins cX7_begins 2 none, Cond.fieldLink RX7 218 "MacroKeysModel" "trace" "I", Cond.methodLink RL 121 yX6_click, Cond.instanceMethod yX6_click, Cond.selects RX6 yX6_click yX6_click, Cond.code yX6_click cX6_click 3 (some .int), Cond.methodLink RL 124 yX7_click, Cond.instanceMethod yX7_click, Cond.selects RX7 yX7_click yX7_click, Cond.code yX7_click cX7_click 2 (some .int), Cond.methodLink RL 125 yX6_as, Cond.instanceMethod yX6_as, Cond.selects RX6 yX6_as yX6_as, Cond.code yX6_as cX6_as 4 (some .int), Cond.methodLink RL 128 yX7_as, Cond.instanceMethod yX7_as, Cond.selects RX7 yX7_as yX7_as, Cond.code yX7_as cX7_as 3 (some .int), Cond.methodLink RL 129 yX6_trace, Cond.instanceMethod yX6_trace, Cond.selects RX6 yX6_trace yX6_trace, Cond.code yX6_trace cX6_trace 1 (some .int), Cond.methodLink RL 132 yX7_trace]
def wsL_law_r31 : List Cond := [Cond.instanceMethod yX7_trace, Cond.selects RX7 yX7_trace yX7_trace, Cond.code yX7_trace cX7_trace 1 (some .int), Cond.methodLink RL 133 yX6_fault, Cond.instanceMethod yX6_fault, Cond.selects RX6 yX6_fault yX6_fault, Cond.code yX6_fault cX6_fault 1 (some .int), Cond.methodLink RL 136 yX7_fault, Cond.instanceMethod yX7_fault, Cond.selects RX7 yX7_fault yX7_fault, Cond.code yX7_fault cX7_fault 1 (some .int), Cond.methodLink RL 137 yX6_many, Cond.instanceMethod yX6_many, Cond.selects RX6 yX6_many yX6_many, Cond.code yX6_many cX6_many 2 (some .int), Cond.methodLink RL 140 yX7_many, Cond.instanceMethod yX7_many, Cond.selects RX7 yX7_many yX7_many, Cond.code yX7_many cX7_many 2 (some .int)]
def wsL_law : List Cond := (wsL_law_r1 ++ (wsL_law_r2 ++ (wsL_law_r3 ++ (wsL_law_r4 ++ (wsL_law_r5 ++ (wsL_law_r6 ++ (wsL_law_r7 ++ (wsL_law_r8 ++ (wsL_law_r9 ++ (wsL_law_r10 ++ (wsL_law_r11 ++ (wsL_law_r12 ++ (wsL_law_r13 ++ (wsL_law_r14 ++ (wsL_law_r15 ++ (wsL_law_r16 ++ (wsL_law_r17 ++ (wsL_law_r18 ++ (wsL_law_r19 ++ (wsL_law_r20 ++ (wsL_law_r21 ++ (wsL_law_r22 ++ (wsL_law_r23 ++ (wsL_law_r24 ++ (wsL_law_r25 ++ (wsL_law_r26 ++ (wsL_law_r27 ++ (wsL_law_r28 ++ (wsL_law_r29 ++ (wsL_law_r30 ++ wsL_law_r31)))))))))))))))))))))))))))))) ++ wsX60 ++ wsX70 ++ wsX00 ++ wsX30 ++ wsX40 ++ wsX50 ++ wsX20 ++ ([] : List Cond)
theorem inlX0 : ∀ w ∈ wsX00, w ∈ wsL_law := fun _ h => List.mem_append_left _ (List.mem_append_left _ (List.mem_append_left _ (List.mem_append_left _ (List.mem_append_left _ (List.mem_append_right _ h)))))
theorem inlX2 : ∀ w ∈ wsX20, w ∈ wsL_law := fun _ h => List.mem_append_left _ (List.mem_append_right _ h)
theorem inlX3 : ∀ w ∈ wsX30, w ∈ wsL_law := fun _ h => List.mem_append_left _ (List.mem_append_left _ (List.mem_append_left _ (List.mem_append_left _ (List.mem_append_right _ h))))
theorem inlX4 : ∀ w ∈ wsX40, w ∈ wsL_law := fun _ h => List.mem_append_left _ (List.mem_append_left _ (List.mem_append_left _ (List.mem_append_right _ h)))
theorem inlX5 : ∀ w ∈ wsX50, w ∈ wsL_law := fun _ h => List.mem_append_left _ (List.mem_append_left _ (List.mem_append_right _ h))
theorem inlX6 : ∀ w ∈ wsX60, w ∈ wsL_law := fun _ h => List.mem_append_left _ (List.mem_append_left _ (List.mem_append_left _ (List.mem_append_left _ (List.mem_append_left _ (List.mem_append_left _ (List.mem_append_left _ (List.mem_append_right _ h)))))))
theorem inlX7 : ∀ w ∈ wsX70, w ∈ wsL_law := fun _ h => List.mem_append_left _ (List.mem_append_left _ (List.mem_append_left _ (List.mem_append_left _ (List.mem_append_left _ (List.mem_append_left _ (List.mem_append_right _ h))))))
theorem inJ10 : ∀ w ∈ wsJ100, w ∈ lw_tbl := by decide +kernel
theorem inJ7 : ∀ w ∈ wsJ70, w ∈ lw_tbl := by decide +kernel
abbrev vwCl : List vw_C := [(RX0, TX0, 3), (RX2, TX2, 4), (RX3, TX3, 4), (RX4, TX4, 3), (RX5, TX5, 3), (RX6, TX6, 11), (RX7, TX7, 35)]
end
section
/-! THE WORLD: 54 cells, ids 0..53: the class's 0..31, the reference's 32..53. A state is S : id -> slot -> Int32 (int fields by their slot, arrays by their index); references never change but Reader.latest, which S 4 2 tells. -/
abbrev St : Type := Nat → Nat → Int32
abbrev Ev : Type := va_G × ClassId × ClassId × ClassId × (Nat → Nat)
def bb (E : Ev) : Nat → Nat := E.2.2.2.2
def st (S : St) (q k : Nat) (v : Int32) : St := fun a c => if a = q ∧ c = k then v else S a c
def sr (S : St) (q : Nat) (f : Nat → Int32) : St := fun a => if a = q then f else S a
def inb (i : Int32) (n : Nat) : Bool := decide (¬ (i < 0 ∨ n ≤ i.toNatClampNeg))
theorem inb_in {i : Int32} {n : Nat} (h : inb i n = true) : vp_in i n := of_decide_eq_true (p := ¬ (i < 0 ∨ n ≤ i.toNatClampNeg)) h
def bnd {α β : Type} (e : α) (k : α → β) : β := k e
def cal {α β : Type} (o : Option (α × St)) (k : α → St → Option β) : Option β := match o with
  | none => none
  | some a => k a.1 a.2
theorem bnd_at {α β : Type} {e x : α} {k : α → Option β} {r : β} (ex : x = e) (h : bnd e k = some r) : k x = some r := by subst ex; exact h
theorem bnd_go {α β : Type} {e : α} {k : α → Option β} {r : β} (h : bnd e k = some r) : ∃ x, x = e ∧ k x = some r := ⟨e, rfl, h⟩
theorem ite_t {β : Type} {c : Prop} [Decidable c] {a b : Option β} {r : β} (hc : c) (h : (if c then a else b) = some r) : a = some r := by rw [if_pos hc] at h; exact h
theorem ite_f {β : Type} {c : Prop} [Decidable c] {a b : Option β} {r : β} (hc : ¬ c) (h : (if c then a else b) = some r) : b = some r := by rw [if_neg hc] at h; exact h
theorem ite_g {β : Type} {c : Prop} [Decidable c] {a : Option β} {r : β} (h : (if c then a else none) = some r) : c ∧ a = some r := by
  by_cases hc : c
  · rw [if_pos hc] at h; exact ⟨hc, h⟩
  · rw [if_neg hc] at h; cases h
theorem cal_g {α β : Type} {o : Option (α × St)} {k : α → St → Option β} {r : β} (h : cal o k = some r) : ∃ a s, o = some (a, s) ∧ k a s = some r := by
  cases o with
  | none => cases h
  | some a => exact ⟨a.1, a.2, rfl, h⟩
theorem st_ne {S : St} {q k : Nat} {v : Int32} {a : Nat} (h : a ≠ q) : st S q k v a = S a := by
  funext c
  show (if a = q ∧ c = k then v else S a c) = S a c
  rw [if_neg (fun z => h z.1)]
theorem st_upd {S : St} {q k : Nat} {v : Int32} : st S q k v q = upd (S q) k v := by
  funext c
  show (if q = q ∧ c = k then v else S q c) = (if c = k then v else S q c)
  by_cases h : c = k
  · rw [if_pos ⟨rfl, h⟩, if_pos h]
  · rw [if_neg (fun z => h z.2), if_neg h]
theorem st_s {S : St} {q k : Nat} {v : Int32} : st S q k v q k = v := if_pos ⟨rfl, rfl⟩
theorem st_n {S : St} {q k c : Nat} {v : Int32} (h : c ≠ k) : st S q k v q c = S q c := if_neg (fun z => h z.2)
theorem sr_ne {S : St} {q : Nat} {f : Nat → Int32} {a : Nat} (h : a ≠ q) : sr S q f a = S a := if_neg h
theorem sr_s {S : St} {q : Nat} {f : Nat → Int32} : sr S q f q = f := if_pos rfl
/-- the cell of an id -/
def en (E : Ev) (k : Nat) (f : Nat → Int32) : va_E :=
  if k = 0 then .inr (5, [.ref (bb E 1), .ref (bb E 4), .ref (bb E 6), .ref (bb E 9), .ref (bb E 10), .ref (bb E 11), .int (f 6), .int (f 7), .int (f 8), .int (f 9), .int (f 10)])
  else if k = 1 then .inr (0, [.int (f 0), .ref (bb E 2), .ref (bb E 3)])
  else if k = 2 then .inl (E.2.2.1, 3, .inr (.inr (.inr (.inr (fun i => some (bb E (20 + i)))))))
  else if k = 3 then .inl (E.2.1, 23211, .inl f)
  else if k = 4 then .inr (2, [.ref (bb E 5), .int (f 1), .ref (bb E (20 + (3 + (f 2).toNatClampNeg))), .int (f 3)])
  else if k = 5 then .inl (E.2.2.1, 3, .inr (.inr (.inr (.inr (fun i => some (bb E (20 + (3 + i))))))))
  else if k = 6 then .inr (3, [.ref (bb E 7), .ref (bb E 8), .int (f 2)])
  else if k < 9 then .inl (E.2.1, 7737, .inl f)
  else if k = 9 then .inl (E.2.2.2.1, 4, .inr (.inr (.inr (.inr (fun i => some (bb E (12 + i)))))))
  else if k < 12 then .inl (E.2.1, 8, .inl f)
  else if k < 16 then .inr (4, [.int (f 0), .int (f 1), .ref (bb E (k + 4))])
  else if k < 20 then .inl (E.2.1, 60, .inl f)
  else if k < 26 then .inr (1, [.int (f 0), .int (f 1), .int (f 2), .ref (bb E (k + 6))])
  else if k < 32 then .inl (E.2.1, 4, .inl f)
  else if k = 32 then .inr (6, [.int (f 0), .int (f 1), .ref (bb E 33), .ref (bb E 34), .ref (bb E 35), .int (f 5), .int (f 6), .int (f 7), .ref (bb E 36), .ref (bb E 37), .ref (bb E 38), .ref (bb E 39), .int (f 12), .int (f 13), .ref (bb E 40), .ref (bb E 41), .ref (bb E 42), .ref (bb E 43), .ref (bb E 44), .ref (bb E 45), .int (f 20), .int (f 21), .int (f 22), .ref (bb E 46), .ref (bb E 47), .ref (bb E 48), .int (f 26), .int (f 27), .int (f 28), .ref (bb E 49), .ref (bb E 50), .ref (bb E 51), .int (f 32), .ref (bb E 52), .ref (bb E 53)])
  else if k < 35 then .inl (E.2.1, 4, .inl f)
  else if k = 35 then .inl (E.2.1, 240, .inl f)
  else if k < 39 then .inl (E.2.1, 3, .inl f)
  else if k = 39 then .inl (E.2.1, 12, .inl f)
  else if k < 43 then .inl (E.2.1, 3, .inl f)
  else if k = 43 then .inl (E.2.1, 12, .inl f)
  else if k = 44 then .inl (E.2.1, 3, .inl f)
  else if k = 45 then .inl (E.2.1, 5, .inl f)
  else if k < 49 then .inl (E.2.1, 3, .inl f)
  else if k = 49 then .inl (E.2.1, 85107, .inl f)
  else if k < 52 then .inl (E.2.1, 7737, .inl f)
  else .inl (E.2.1, 8, .inl f)
/-- a row of ints -/
def isA (E : Ev) (q n : Nat) : Prop := q < 54 ∧ ∀ f, en E q f = .inl (E.2.1, n, .inl f)
theorem a_3 (E : Ev) : isA E 3 23211 := ⟨by decide, fun f => by simp [en]⟩
theorem a_7 (E : Ev) : isA E 7 7737 := ⟨by decide, fun f => by simp [en]⟩
theorem a_8 (E : Ev) : isA E 8 7737 := ⟨by decide, fun f => by simp [en]⟩
theorem a_10 (E : Ev) : isA E 10 8 := ⟨by decide, fun f => by simp [en]⟩
theorem a_11 (E : Ev) : isA E 11 8 := ⟨by decide, fun f => by simp [en]⟩
theorem a_sh (E : Ev) {j : Nat} (hj : j < 4) : isA E (16 + j) 60 := ⟨by omega, fun f => by
  rcases (show j = 0 ∨ j = 1 ∨ j = 2 ∨ j = 3 by omega) with rfl | rfl | rfl | rfl <;> simp [en]⟩
theorem a_mk (E : Ev) {j : Nat} (hj : j < 6) : isA E (26 + j) 4 := ⟨by omega, fun f => by
  rcases (show j = 0 ∨ j = 1 ∨ j = 2 ∨ j = 3 ∨ j = 4 ∨ j = 5 by omega) with rfl | rfl | rfl | rfl | rfl | rfl <;> simp [en]⟩
theorem a_33 (E : Ev) : isA E 33 4 := ⟨by decide, fun f => by simp [en]⟩
theorem a_34 (E : Ev) : isA E 34 4 := ⟨by decide, fun f => by simp [en]⟩
theorem a_35 (E : Ev) : isA E 35 240 := ⟨by decide, fun f => by simp [en]⟩
theorem a_36 (E : Ev) : isA E 36 3 := ⟨by decide, fun f => by simp [en]⟩
theorem a_37 (E : Ev) : isA E 37 3 := ⟨by decide, fun f => by simp [en]⟩
theorem a_38 (E : Ev) : isA E 38 3 := ⟨by decide, fun f => by simp [en]⟩
theorem a_39 (E : Ev) : isA E 39 12 := ⟨by decide, fun f => by simp [en]⟩
theorem a_40 (E : Ev) : isA E 40 3 := ⟨by decide, fun f => by simp [en]⟩
theorem a_41 (E : Ev) : isA E 41 3 := ⟨by decide, fun f => by simp [en]⟩
theorem a_42 (E : Ev) : isA E 42 3 := ⟨by decide, fun f => by simp [en]⟩
theorem a_43 (E : Ev) : isA E 43 12 := ⟨by decide, fun f => by simp [en]⟩
theorem a_44 (E : Ev) : isA E 44 3 := ⟨by decide, fun f => by simp [en]⟩
theorem a_45 (E : Ev) : isA E 45 5 := ⟨by decide, fun f => by simp [en]⟩
theorem a_46 (E : Ev) : isA E 46 3 := ⟨by decide, fun f => by simp [en]⟩
theorem a_47 (E : Ev) : isA E 47 3 := ⟨by decide, fun f => by simp [en]⟩
theorem a_48 (E : Ev) : isA E 48 3 := ⟨by decide, fun f => by simp [en]⟩
theorem a_49 (E : Ev) : isA E 49 85107 := ⟨by decide, fun f => by simp [en]⟩
theorem a_50 (E : Ev) : isA E 50 7737 := ⟨by decide, fun f => by simp [en]⟩
theorem a_51 (E : Ev) : isA E 51 7737 := ⟨by decide, fun f => by simp [en]⟩
theorem a_52 (E : Ev) : isA E 52 8 := ⟨by decide, fun f => by simp [en]⟩
theorem a_53 (E : Ev) : isA E 53 8 := ⟨by decide, fun f => by simp [en]⟩
theorem e_0 (E : Ev) (f : Nat → Int32) : en E 0 f = .inr (5, [.ref (bb E 1), .ref (bb E 4), .ref (bb E 6), .ref (bb E 9), .ref (bb E 10), .ref (bb E 11), .int (f 6), .int (f 7), .int (f 8), .int (f 9), .int (f 10)]) := by simp [en]
theorem e_1 (E : Ev) (f : Nat → Int32) : en E 1 f = .inr (0, [.int (f 0), .ref (bb E 2), .ref (bb E 3)]) := by simp [en]
theorem e_2 (E : Ev) (f : Nat → Int32) : en E 2 f = .inl (E.2.2.1, 3, .inr (.inr (.inr (.inr (fun i => some (bb E (20 + i))))))) := by simp [en]
theorem e_4 (E : Ev) (f : Nat → Int32) : en E 4 f = .inr (2, [.ref (bb E 5), .int (f 1), .ref (bb E (20 + (3 + (f 2).toNatClampNeg))), .int (f 3)]) := by simp [en]
theorem e_5 (E : Ev) (f : Nat → Int32) : en E 5 f = .inl (E.2.2.1, 3, .inr (.inr (.inr (.inr (fun i => some (bb E (20 + (3 + i)))))))) := by simp [en]
theorem e_6 (E : Ev) (f : Nat → Int32) : en E 6 f = .inr (3, [.ref (bb E 7), .ref (bb E 8), .int (f 2)]) := by simp [en]
theorem e_9 (E : Ev) (f : Nat → Int32) : en E 9 f = .inl (E.2.2.2.1, 4, .inr (.inr (.inr (.inr (fun i => some (bb E (12 + i))))))) := by simp [en]
theorem e_sh (E : Ev) {j : Nat} (hj : j < 4) (f : Nat → Int32) : en E (12 + j) f = .inr (4, [.int (f 0), .int (f 1), .ref (bb E (16 + j))]) := by
  rcases (show j = 0 ∨ j = 1 ∨ j = 2 ∨ j = 3 by omega) with rfl | rfl | rfl | rfl <;> simp [en]
theorem e_mk (E : Ev) {j : Nat} (hj : j < 6) (f : Nat → Int32) : en E (20 + j) f = .inr (1, [.int (f 0), .int (f 1), .int (f 2), .ref (bb E (26 + j))]) := by
  rcases (show j = 0 ∨ j = 1 ∨ j = 2 ∨ j = 3 ∨ j = 4 ∨ j = 5 by omega) with rfl | rfl | rfl | rfl | rfl | rfl <;> simp [en]
theorem e_32 (E : Ev) (f : Nat → Int32) : en E 32 f = .inr (6, [.int (f 0), .int (f 1), .ref (bb E 33), .ref (bb E 34), .ref (bb E 35), .int (f 5), .int (f 6), .int (f 7), .ref (bb E 36), .ref (bb E 37), .ref (bb E 38), .ref (bb E 39), .int (f 12), .int (f 13), .ref (bb E 40), .ref (bb E 41), .ref (bb E 42), .ref (bb E 43), .ref (bb E 44), .ref (bb E 45), .int (f 20), .int (f 21), .int (f 22), .ref (bb E 46), .ref (bb E 47), .ref (bb E 48), .int (f 26), .int (f 27), .int (f 28), .ref (bb E 49), .ref (bb E 50), .ref (bb E 51), .int (f 32), .ref (bb E 52), .ref (bb E 53)]) := by simp [en]
/-- the world of a state, its region, what else a method's start has: the table FIRST, the links of two private methods -/
def wd (E : Ev) (S : St) : va_W := (List.range 54).map (fun k => (bb E k, en E k (S k)))
def AA (E : Ev) (sz q : Nat) : Prop := (∃ k, k < 54 ∧ q = bb E k) ∨ sz ≤ q
def frs (j : Nat) : Int32 := if j = 0 then 0 else if j = 1 then 1 else if j = 2 then 9 else if j = 3 then 57 else if j = 4 then 313 else 1593
def ZZ (E : Ev) (s : State) : Prop := ∃ t, va_Z "MacroKeys$Line" "FIRST" "[I" (.ref t) (AA E s.heap.size) s s.heap ∧ va_T .int t 6 (fun j => .int (frs j)) (AA E s.heap.size) s s.heap
def NN (s : State) : Prop := va_Nw (.methodLinkNest "MacroKeys" 107 yX0_pressesOf "MacroKeys") s ∧ va_Nw (.methodLinkNest "MacroKeys" 121 yX0_effectOf "MacroKeys") s
def tyl (E : Ev) : List (ClassId × FieldType) := [(E.2.1, .int), (E.2.2.1, .object "MacroKeys$Macro"), (E.2.2.2.1, .object "MacroKeys$Sheet")]
def inj (E : Ev) : Prop := ∀ i j, i < 54 → j < 54 → bb E i = bb E j → i = j
def PX (E : Ev) (S : St) (sz : Nat) (U : State) : Prop := U.heap.size = sz ∧ va_P E.1 vwCl (wd E S) U.heap ∧ va_K E.1 vwCl (tyl E) U ∧ inj E ∧ ZZ E U ∧ NN U
def QX (E : Ev) (S : St) (t : State) : Prop := va_P E.1 vwCl (wd E S) t.heap
def GX (p : Program) (s : State) (m : MethodId) (meth : Method) (c : Code) (args : Array Value) (cc : ByteArray) (nL : Nat) (ret : Option FieldType) (own : String) (E : Ev) : Prop :=
  p.tables.exec = Jvm.exec ∧ c.code = cc ∧ c.maxLocals = nL ∧ s.vm.findClass own = some m.cls ∧ (∀ w ∈ wsL_law, w.before args s = true) ∧ meth.locks = false ∧ meth.sig.returnType = ret ∧ va_K E.1 vwCl (tyl E) s ∧ inj E ∧ ZZ E s ∧ NN s
def HH (E : Ev) (S : St) (s : State) (H : Heap) (locs : List Loc) : Prop := va_P E.1 vwCl (wd E S) H ∧ va_S (AA E s.heap.size) s.heap H locs
theorem wd_get {E : Ev} {S : St} {k : Nat} (h : k < 54) : (wd E S)[k]? = some (bb E k, en E k (S k)) := by
  unfold wd
  rw [List.getElem?_map, List.getElem?_range h]
  rfl
theorem wd_some {E : Ev} {S : St} {k : Nat} {q : Nat × va_E} (h : (wd E S)[k]? = some q) : k < 54 ∧ q = (bb E k, en E k (S k)) := by
  have hk : k < 54 := by
    have := (List.getElem?_eq_some_iff.mp h).1
    simpa [wd] using this
  rw [wd_get hk] at h
  exact ⟨hk, (Option.some.inj h).symm⟩
theorem wd_D {E : Ev} (hi : inj E) (S : St) (sz : Nat) : va_D (AA E sz) (wd E S) := by
  refine ⟨fun i j p q h1 h2 h3 => ?_, fun k q h => ?_⟩
  · obtain ⟨a1, rfl⟩ := wd_some h1
    obtain ⟨a2, rfl⟩ := wd_some h2
    exact hi i j a1 a2 h3
  · obtain ⟨a1, rfl⟩ := wd_some h
    exact Or.inl ⟨k, a1, rfl⟩
theorem wd_set {E : Ev} {S S' : St} {q : Nat} (hq : q < 54) {e : va_E} (he : en E q (S' q) = e) (ho : ∀ a, a ≠ q → S' a = S a) : (wd E S).set q (bb E q, e) = wd E S' := by
  refine List.ext_getElem? (fun k => ?_)
  by_cases hk : k = q
  · subst hk
    rw [List.getElem?_set_self (by simpa [wd] using hq), wd_get hq, he]
  · rw [List.getElem?_set_ne (Ne.symm hk)]
    by_cases h : k < 54
    · rw [wd_get h, wd_get h, ho k hk]
    · rw [List.getElem?_eq_none (by simpa [wd] using Nat.not_lt.mp h), List.getElem?_eq_none (by simpa [wd] using Nat.not_lt.mp h)]
theorem AA_le {E : Ev} {n k q : Nat} (h : n ≤ k) (hq : AA E k q) : AA E n q := hq.elim Or.inl (fun z => Or.inr (Nat.le_trans h z))
theorem ZZ.go {E : Ev} {s U : State} {H : Heap} {locs : List Loc} (h : ZZ E s) (hS : va_S (AA E s.heap.size) s.heap H locs) (hU : U.heap = H) (hv : s.vm.Alike U.vm) : ZZ E U := by
  obtain ⟨t, h1, h2⟩ := h
  subst hU
  exact ⟨t, ((h1.kept (H1 := U.heap) (fun a ha hn => hS.2.1 a ha hn)).moved hv).narrow (fun q hq => AA_le hS.1 hq), ((h2.kept (H1 := U.heap) (fun a ha hn => hS.2.1 a ha hn)).moved hv).narrow (fun q hq => AA_le hS.1 hq)⟩
theorem NN.go {s U : State} (h : NN s) (hW : s.WarmedH U.vm) : NN U := ⟨va_Nw.warmM hW h.1, va_Nw.warmM hW h.2⟩
end
section
/-! ROWS over the world: one an instruction that reads or writes it, one a call, one a return. -/
section rows
variable {p : Program} {l : Launch} {e : Env} {R : Room} {s : State} {m : MethodId} {args : Array Value} {below : List Frame} {meth : Method} {c : Code} {H : Heap} {locs : List Loc} {cells slots : Nat} {Q : State → Prop} {cc : ByteArray} {nL : Nat} {ret : Option FieldType} {own : String} {E : Ev} {S : St} {pc : Nat} {ls : Array Slot} {rest : List Value}
theorem r_get (X : GX p s m meth c args cc nL ret own E) (hH : HH E S s H locs) {q0 ci k N index : Nat} {fs : List Value} {C : String} {T : u_T} {v : Value} (hq : q0 < 54) (he : en E q0 (S q0) = .inr (ci, fs)) (hc : vwCl[ci]? = some (C, T, N)) (hin : ∀ w ∈ u_ws C T N, w ∈ wsL_law) (hk : k < N) (hlink : Cond.fieldLink own index (T k).1 (T k).2.1 (T k).2.2.1 ∈ wsL_law) (hv : fs[k]? = some v) (hdg : decode cc pc = .ok (.getfield index, 3))
    (kk : W p l e R s m args below meth c H locs cells slots Q (F0 m (pc + 3) ls (v :: rest))) : W p l e R s m args below meth c H locs cells slots Q (F0 m pc ls (.ref (bb E q0) :: rest)) := by
  obtain ⟨hx, hb, -, hown, hts, -, -, hK, -, -, -⟩ := X
  exact va_get hx hb hts hin hown hK hH.1 q0 (by rw [wd_get hq, he]) hc k hk (hts _ hlink) (fun _ h => h) hv hdg kk
theorem r_put (X : GX p s m meth c args cc nL ret own E) (hH : HH E S s H locs) {q0 ci k N index : Nat} {fs : List Value} {C : String} {T : u_T} {ty0 : Nat → FieldType} {ty : FieldType} {v : Value} (S' : St) (hq : q0 < 54) (he : en E q0 (S q0) = .inr (ci, fs)) (hc : vwCl[ci]? = some (C, T, N)) (hin : ∀ w ∈ u_ws C T N, w ∈ wsL_law) (hty : ∀ k, k < N → parseFieldDescriptor (T k).2.2.1 = some (ty0 k)) (hnm : ∀ a, a < N → ∀ b, b < N → a ≠ b → (T a).2.1 ≠ (T b).2.1) (hk : k < N) (hlink : Cond.fieldLink own index (T k).1 (T k).2.1 (T k).2.2.1 ∈ wsL_law) (hfin : (T k).2.2.2 = false) (hd : ty0 k = ty) (hn : narrow ty v = v) (hfit : fits ty v = true) (hl : k < fs.length) (he' : en E q0 (S' q0) = .inr (ci, fs.set k v)) (ho : ∀ a, a ≠ q0 → S' a = S a) (hdg : decode cc pc = .ok (.putfield index, 3))
    (kk : ∀ (H1 : Heap) (locs1 : List Loc), HH E S' s H1 locs1 → W p l e R s m args below meth c H1 locs1 cells slots Q (F0 m (pc + 3) ls rest)) : W p l e R s m args below meth c H locs cells slots Q (F0 m pc ls (v :: .ref (bb E q0) :: rest)) := by
  obtain ⟨hx, hb, -, hown, hts, -, -, hK, hi, -, -⟩ := X
  exact va_put hx hb hts hin ty0 hty hnm hown hK hH.1 (wd_D hi S _) hH.2 q0 (by rw [wd_get hq, he]) hc k hk (hts _ hlink) (fun _ h => h) hfin (by rw [hty k hk, hd]) hn hfit hl hdg (fun H1 locs1 h1 _ h3 => kk H1 locs1 ⟨by rw [← wd_set hq he' ho]; exact h1, h3⟩)
theorem r_iald (X : GX p s m meth c args cc nL ret own E) (hH : HH E S s H locs) {q n : Nat} (ha : isA E q n) {i : Int32} (hin : inb i n = true) (hdg : decode cc pc = .ok (.iaload, 1))
    (kk : W p l e R s m args below meth c H locs cells slots Q (F0 m (pc + 1) ls (.int (S q i.toNatClampNeg) :: rest))) : W p l e R s m args below meth c H locs cells slots Q (F0 m pc ls (.int i :: .ref (bb E q) :: rest)) := by
  obtain ⟨hx, hb, -, hown, hts, -, -, hK, -, -, -⟩ := X
  exact va_iald hx hb hK hH.1 q 0 (by rw [wd_get ha.1, ha.2]) rfl (inb_in hin) hdg kk
theorem r_iast (X : GX p s m meth c args cc nL ret own E) (hH : HH E S s H locs) {q n : Nat} (ha : isA E q n) {i x : Int32} (hin : inb i n = true) (hdg : decode cc pc = .ok (.iastore, 1))
    (kk : ∀ (H1 : Heap) (locs1 : List Loc), HH E (st S q i.toNatClampNeg x) s H1 locs1 → W p l e R s m args below meth c H1 locs1 cells slots Q (F0 m (pc + 1) ls rest)) : W p l e R s m args below meth c H locs cells slots Q (F0 m pc ls (.int x :: .int i :: .ref (bb E q) :: rest)) := by
  obtain ⟨hx, hb, -, hown, hts, -, -, hK, hi, -, -⟩ := X
  exact va_iast hx hb hK hH.1 (wd_D hi S _) hH.2 q 0 (by rw [wd_get ha.1, ha.2]) rfl (inb_in hin) hdg (fun H1 locs1 h1 _ h3 => kk H1 locs1 ⟨by rw [← wd_set (S := S) (S' := st S q i.toNatClampNeg x) ha.1 (by rw [ha.2, st_upd]) (fun a h => st_ne h)]; exact h1, h3⟩)
theorem r_alen (X : GX p s m meth c args cc nL ret own E) (hH : HH E S s H locs) {q n : Nat} (ha : isA E q n) {v : Int32} (hv : Int32.ofNat n = v) (hdg : decode cc pc = .ok (.arraylength, 1))
    (kk : W p l e R s m args below meth c H locs cells slots Q (F0 m (pc + 1) ls (.int v :: rest))) : W p l e R s m args below meth c H locs cells slots Q (F0 m pc ls (.ref (bb E q) :: rest)) := by
  obtain ⟨hx, hb, -, hown, hts, -, -, hK, -, -, -⟩ := X
  exact va_alen hx hb hK hH.1 q 0 (by rw [wd_get ha.1, ha.2 (S q)]) rfl hv hdg kk
theorem r_aald (X : GX p s m meth c args cc nL ret own E) (hH : HH E S s H locs) {q t0 n : Nat} {cA : ClassId} {C : String} {f : Nat → Option Nat} (hq : q < 54) (he : en E q (S q) = .inl (cA, n, .inr (.inr (.inr (.inr f))))) (ht : (tyl E)[t0]? = some (cA, .object C)) {i : Int32} {v : Value} (hin : inb i n = true) (hv : va_rf (f i.toNatClampNeg) = v) (hdg : decode cc pc = .ok (.aaload, 1))
    (kk : W p l e R s m args below meth c H locs cells slots Q (F0 m (pc + 1) ls (v :: rest))) : W p l e R s m args below meth c H locs cells slots Q (F0 m pc ls (.int i :: .ref (bb E q) :: rest)) := by
  obtain ⟨hx, hb, -, hown, hts, -, -, hK, -, -, -⟩ := X
  exact va_aldq hx hb hK hH.1 q t0 (by rw [wd_get hq, he]) ht (inb_in hin) hdg (by rw [hv]; exact kk)
theorem r_first (X : GX p s m meth c args cc nL ret own E) (hH : HH E S s H locs) {index : Nat} (hlink : Cond.fieldLink own index "MacroKeys$Line" "FIRST" "[I" ∈ wsL_law) (hdg : decode cc pc = .ok (.getstatic index, 3))
    (kk : ∀ t : Nat, va_T .int t 6 (fun j => .int (frs j)) (AA E s.heap.size) s s.heap → W p l e R s m args below meth c H locs cells slots Q (F0 m (pc + 3) ls (.ref t :: rest))) : W p l e R s m args below meth c H locs cells slots Q (F0 m pc ls rest) := by
  obtain ⟨hx, hb, -, hown, hts, -, -, hK, -, ⟨t, hZ, hT⟩, -⟩ := X
  exact va_gets hx hb hZ hH.2 hown (hts _ hlink) (fun _ h => h) hdg (kk t hT)
theorem r_tld (X : GX p s m meth c args cc nL ret own E) (hH : HH E S s H locs) {t : Nat} (hT : va_T .int t 6 (fun j => .int (frs j)) (AA E s.heap.size) s s.heap) {i : Int32} (hin : inb i 6 = true) (hdg : decode cc pc = .ok (.iaload, 1))
    (kk : W p l e R s m args below meth c H locs cells slots Q (F0 m (pc + 1) ls (.int (frs i.toNatClampNeg) :: rest))) : W p l e R s m args below meth c H locs cells slots Q (F0 m pc ls (.int i :: .ref t :: rest)) := by
  obtain ⟨hx, hb, -⟩ := X
  exact va_ti hx hb hT hH.2 (inb_in hin) rfl hdg kk
/-- System.arraycopy between two rows of ints -/
def cpyok (sp dp n : Int32) (n0 n1 : Nat) : Bool := decide (¬ sp < 0 ∧ ¬ dp < 0 ∧ ¬ n < 0 ∧ sp.toNatClampNeg + n.toNatClampNeg ≤ n0 ∧ dp.toNatClampNeg + n.toNatClampNeg ≤ n1)
theorem r_copy (X : GX p s m meth c args cc nL ret own E) (hH : HH E S s H locs) {q0 q1 n0 n1 index : Nat} (ha0 : isA E q0 n0) (ha1 : isA E q1 n1) {sp dp n : Int32} (hok : cpyok sp dp n n0 n1 = true) (hw : Cond.methodLink own index arraycopyName ∈ wsL_law ∧ Cond.native arraycopyName ∈ wsL_law ∧ Cond.static arraycopyName ∈ wsL_law ∧ Cond.initialized "java/lang/System" ∈ wsL_law) (hsz : ls.size = nL) (hframes : 1 ≤ R.frames) (hlocals : (rest.map fun v => v.category).sum + (nativeFrameWords "java/lang/System" "arraycopy" 5 + 11) ≤ R.locals) (hdg : decode cc pc = .ok (.invokestatic index, 3))
    (kk : ∀ (H1 : Heap) (locs1 : List Loc), HH E (sr S q1 (va_cpy (S q0) (S q1) sp.toNatClampNeg dp.toNatClampNeg n.toNatClampNeg)) s H1 locs1 → W p l e R s m args below meth c H1 locs1 cells slots Q (F0 m (pc + 3) ls rest)) : W p l e R s m args below meth c H locs cells slots Q (F0 m pc ls (.int n :: .int dp :: .ref (bb E q1) :: .int sp :: .ref (bb E q0) :: rest)) := by
  obtain ⟨hx, hb, hml, hown, hts, -, -, hK, hi, -, -⟩ := X
  obtain ⟨h1, h2, h3, h4, h5⟩ := of_decide_eq_true hok
  exact va_copyi hx hb (by rw [hml, hsz]) hown (hts _ hw.1) (hts _ hw.2.1) (hts _ hw.2.2.1) (hts _ hw.2.2.2) hK hH.1 (wd_D hi S _) hH.2 q0 q1 0 0 (by rw [wd_get ha0.1, ha0.2]) (by rw [wd_get ha1.1, ha1.2]) rfl rfl rfl h1 h2 h3 h4 h5 (fun _ _ => rfl) hframes hlocals hdg (fun H1 locs1 g1 _ g3 => kk H1 locs1 ⟨by rw [← wd_set (S := S) (S' := sr S q1 (va_cpy (S q0) (S q1) sp.toNatClampNeg dp.toNatClampNeg n.toNatClampNeg)) ha1.1 (by rw [ha1.2, sr_s]) (fun a h => sr_ne h)]; exact g1, g3⟩)
end rows
/-! contracts: what a method answers and the state behind it -/
def rmL (k : Nat) : Room := { frames := k, cells := 0, slots := 0, locals := 40 * k }
def QI (E : Ev) (r : Int32) (S1 : St) (sz : Nat) : Array Value → State → Outcome → State → Prop := va_Qi (fun r' (_ : Unit) => r' = r) (fun _ t => QX E S1 t) (AA E sz)
def QL (E : Ev) (r : Int64) (S1 : St) (sz : Nat) : Array Value → State → Outcome → State → Prop := va_Ql (fun r' (_ : Unit) => r' = r) (fun _ t => QX E S1 t) (AA E sz)
def QV (E : Ev) (_ : Unit) (S1 : St) (sz : Nat) : Array Value → State → Outcome → State → Prop := va_Qv (fun (_ : Unit) => True) (fun _ t => QX E S1 t) (AA E sz)
def QQ (o : Nat) (E : Ev) (r : Option Nat) (S1 : St) (sz : Nat) : Array Value → State → Outcome → State → Prop := va_Qq (fun r' (_ : Unit) => r' = r.map (fun j => bb E (o + j))) (fun _ t => QX E S1 t) (AA E sz)
/-- a contract of level k: with what the arguments are and the state, the end -/
def Ct (l : Launch) (y : MethodName) (cy : Cond) (k : Nat) (E : Ev) (av : List Value) (S : St) (Qe : Nat → Array Value → State → Outcome → State → Prop) : Prop := ∀ sz, Met l y (cy :: wsL_law) (rmL k) (va_Pc av (PX E S sz)) (Qe sz) 0 0 (AA E sz)
theorem Ct.of {l : Launch} {y : MethodName} {cc : ByteArray} {maxL k : Nat} {ret : Option FieldType} {E : Ev} {av : List Value} {S : St} {Qe : Nat → Array Value → State → Outcome → State → Prop} (hy : plainName y.cls = true) (hlen : (lg_sl av).length ≤ maxL)
    (body : ∀ (p : Program) (e : Env) (s : State) (m : MethodId) (below : List Frame) (meth : Method) (c : Code) (ls : Array Slot), GX p s m meth c av.toArray cc maxL ret y.cls E → HH E S s s.heap [] → lv_has ls maxL (lv_args 0 av) → W p l e (rmL k) s m av.toArray below meth c s.heap [] 0 0 (MQ below (Qe s.heap.size) av.toArray s 0 0 (AA E s.heap.size)) (F0 m 0 ls [])) : Ct l y (.code y cc maxL ret) k E av S Qe := by
  intro sz
  refine Met.ofW (cc := cc) (maxL := maxL) (ret := ret) hy rfl ?_
  intro p e s m args below meth c s₁ B hml hv
  obtain ⟨rfl, hsz, hP, hK, hi, hZ, hN⟩ := hv
  subst hsz
  have hts := atoms_spec (ws := .code y cc maxL ret :: wsL_law) B.pre
  have hl := lv_entry av (n := maxL) hlen
  rw [lg_entry_eq]
  exact body p e s m below meth c _ ⟨B.exec, B.bytes, hml, findClass_of_methodNamed B.named, fun w h => hts w (List.mem_cons_of_mem _ h), B.notSynchronized, B.returns, hK, hi, hZ, hN⟩ ⟨hP, va_S.rf⟩ hl
theorem good_law : GoodIn wsL_law wsL_law := goodIn_sub (fun _ h => h) (by decide +kernel)
/-- the words of a call: of an object's method, of a static one -/
def GV (own : String) (index : Nat) (C : String) (y : MethodName) (cy : Cond) (n : Nat) : Prop := (Cond.methodLink own index y ∈ wsL_law ∧ Cond.instanceMethod y ∈ wsL_law ∧ Cond.selects C y y ∈ wsL_law ∧ Cond.initialized C ∈ wsL_law ∧ cy ∈ wsL_law) ∧ (y.cls = C ∧ y.cls ≠ "java/lang/invoke/MethodHandle" ∧ y.cls ≠ "java/lang/invoke/VarHandle" ∧ (parseMethodDescriptor y.desc).map (fun d => d.parameters.length) = some n)
def GN (C : String) (y : MethodName) (cy : Cond) (n : Nat) : Prop := (Cond.instanceMethod y ∈ wsL_law ∧ Cond.selects C y y ∈ wsL_law ∧ Cond.initialized y.cls ∈ wsL_law ∧ cy ∈ wsL_law) ∧ (y.cls ≠ "java/lang/invoke/MethodHandle" ∧ y.cls ≠ "java/lang/invoke/VarHandle" ∧ (parseMethodDescriptor y.desc).map (fun d => d.parameters.length) = some n)
def GS (own : String) (index : Nat) (y : MethodName) (cy : Cond) (n : Nat) : Prop := (Cond.methodLink own index y ∈ wsL_law ∧ Cond.static y ∈ wsL_law ∧ Cond.initialized y.cls ∈ wsL_law ∧ cy ∈ wsL_law) ∧ (y.cls ≠ "java/lang/invoke/MethodHandle" ∧ y.cls ≠ "java/lang/invoke/VarHandle" ∧ (parseMethodDescriptor y.desc).map (fun d => d.parameters.length) = some n)
def RoomOK (R : Room) (k cells slots maxL : Nat) : Prop := (k + 1 ≤ R.frames ∧ 8 + (maxL + 11) + 40 * k ≤ R.locals) ∧ cells + 0 ≤ R.cells ∧ slots + 0 ≤ R.slots
theorem rmL_ok {k k' maxL : Nat} (h : k + 1 ≤ k') (h2 : maxL ≤ 21) : RoomOK (rmL k') k 0 0 maxL := ⟨⟨h, by show 8 + (maxL + 11) + 40 * k ≤ 40 * k'; omega⟩, Nat.le_refl _, Nat.le_refl _⟩
theorem good_c {cy : Cond} (h : cy ∈ wsL_law) : GoodIn wsL_law (cy :: wsL_law) := fun w hw => (List.mem_cons.mp hw).elim (fun z => by rw [z]; exact good_law cy h) (good_law w)
section calls
variable {p : Program} {l : Launch} {e : Env} {R : Room} {s : State} {m : MethodId} {args : Array Value} {below : List Frame} {meth : Method} {c : Code} {H : Heap} {locs : List Loc} {cells slots : Nat} {Q : State → Prop} {cc : ByteArray} {nL : Nat} {ret : Option FieldType} {own : String} {E : Ev} {S S1 : St} {pc : Nat} {ls : Array Slot} {rest : List Value}
theorem PX_blind (av : List Value) (sz : Nat) : FrameBlind (va_Pc av (PX E S sz)) := by
  intro a U g mk q
  obtain ⟨q0, q1, qP, qK, qi, ⟨t, z1, z2⟩, qN⟩ := q
  exact ⟨q0, q1, qP, va_K.moved (u := U) (U := U.calling g mk a) (Vm.Alike.refl U.vm) qK, qi, ⟨t, va_Z.moved (u := U) (U := U.calling g mk a) (Vm.Alike.refl U.vm) z1, va_T.moved (u := U) (U := U.calling g mk a) (Vm.Alike.refl U.vm) z2⟩, va_Nw.same (u := U) (U := U.calling g mk a) rfl rfl qN.1, va_Nw.same (u := U) (U := U.calling g mk a) rfl rfl qN.2⟩
theorem PX_at (X : GX p s m meth c args cc nL ret own E) (hH : HH E S s H locs) (av : List Value) (U : State) (hU : U.heap = H) (hW : s.WarmedH U.vm) : va_Pc av (PX E S H.size) av.toArray U := by
  obtain ⟨-, -, -, -, -, -, -, hK, hi, hZ, hN⟩ := X
  exact ⟨rfl, by rw [hU], by rw [hU]; exact hH.1, va_K.moved hW.alike hK, hi, hZ.go hH.2 hU hW.alike, hN.go hW⟩
theorem AA_lt (X : HH E S s H locs) (q : Nat) (h : AA E H.size q) : AA E s.heap.size q := AA_le X.2.1 h
theorem run_V (X : GX p s m meth c args cc nL ret own E) (hH : HH E S s H locs) {q0 ci index maxL k n N : Nat} {fs : List Value} {C : String} {T : u_T} {y : MethodName} {bytes : ByteArray} {rt : Option FieldType} {As : List Value} {Qe : Nat → Array Value → State → Outcome → State → Prop} {st0 : List Value}
    (hM : Ct l y (.code y bytes maxL rt) k E (.ref (bb E q0) :: As) S Qe) (g : GV own index C y (.code y bytes maxL rt) n) (hq : q0 < 54) (he : en E q0 (S q0) = .inr (ci, fs)) (hc : vwCl[ci]? = some (C, T, N)) (hn : As.length = n) (hsz : ls.size = nL) (hR : RoomOK R k cells slots maxL) (hW : (rest.map fun v => v.category).sum ≤ 8) (hst : st0 = As.reverse ++ .ref (bb E q0) :: rest) (hdg : decode cc pc = .ok (.invokevirtual index, 3)) :
    va_Run p l e R s m args below meth c H locs cells slots 0 0 (F0 m pc ls st0) rest (Qe H.size (Value.ref (bb E q0) :: As).toArray) (AA E H.size) := by
  obtain ⟨hx, hb, hml, hown, hts, -, -, hK, -, -, -⟩ := id X
  obtain ⟨⟨g1, g2, g3, g4, g5⟩, gd⟩ := g
  refine va_runV (As := As) (rest := rest) ⟨hx, hb, hml, hown, hts⟩ (hM H.size) (cwV n hts ?_ rfl rfl rfl gd hR.1) ⟨PX_blind _ _, va_recv hK hH.1 (ci := ci) (q0 := q0) hc (by rw [wd_get hq, he]), fun U hU hW => PX_at X hH _ U hU hW⟩ rfl hn hsz hst (lv_room hW) hdg hR.2
  intro w hw
  unfold wsV at hw
  rcases List.mem_append.mp hw with h | h
  · simp only [List.mem_cons, List.not_mem_nil, or_false] at h
    rcases h with rfl | rfl | rfl | rfl
    · exact good_law _ g1
    · exact good_law _ g2
    · exact good_law _ g3
    · exact good_law _ g4
  · exact good_c g5 w h
theorem run_N (X : GX p s m meth c args cc nL ret own E) (hH : HH E S s H locs) {q0 ci index maxL k n N : Nat} {fs : List Value} {C host : String} {T : u_T} {y : MethodName} {bytes : ByteArray} {rt : Option FieldType} {As : List Value} {Qe : Nat → Array Value → State → Outcome → State → Prop} {st0 : List Value}
    (hM : Ct l y (.code y bytes maxL rt) k E (.ref (bb E q0) :: As) S Qe) (hnw : va_Nw (.methodLinkNest own index y host) s) (g : GN C y (.code y bytes maxL rt) n) (hq : q0 < 54) (he : en E q0 (S q0) = .inr (ci, fs)) (hc : vwCl[ci]? = some (C, T, N)) (hn : As.length = n) (hsz : ls.size = nL) (hR : RoomOK R k cells slots maxL) (hW : (rest.map fun v => v.category).sum ≤ 8) (hst : st0 = As.reverse ++ .ref (bb E q0) :: rest) (hdg : decode cc pc = .ok (.invokevirtual index, 3)) :
    va_Run p l e R s m args below meth c H locs cells slots 0 0 (F0 m pc ls st0) rest (Qe H.size (Value.ref (bb E q0) :: As).toArray) (AA E H.size) := by
  obtain ⟨hx, hb, hml, hown, hts, -, -, hK, -, -, -⟩ := id X
  obtain ⟨⟨g2, g3, g4, g5⟩, gd⟩ := g
  exact va_runVN (As := As) (rest := rest) ⟨hx, hb, hml, hown, hts⟩ (hM H.size) ⟨va_cnB n hts (good_c g5) rfl rfl rfl hnw (hts _ g4) gd hR.1, hts _ g2, hts _ g3⟩ ⟨PX_blind _ _, va_recv hK hH.1 (ci := ci) (q0 := q0) hc (by rw [wd_get hq, he]), fun U hU hW => PX_at X hH _ U hU hW⟩ rfl hn hsz hst (lv_room hW) hdg hR.2
theorem run_S (X : GX p s m meth c args cc nL ret own E) (hH : HH E S s H locs) {index maxL k n : Nat} {y : MethodName} {bytes : ByteArray} {rt : Option FieldType} {As : List Value} {Qe : Nat → Array Value → State → Outcome → State → Prop} {st0 : List Value}
    (hM : Ct l y (.code y bytes maxL rt) k E As S Qe) (g : GS own index y (.code y bytes maxL rt) n) (hn : As.length = n) (hsz : ls.size = nL) (hR : RoomOK R k cells slots maxL) (hW : (rest.map fun v => v.category).sum ≤ 8) (hst : st0 = As.reverse ++ rest) (hdg : decode cc pc = .ok (.invokestatic index, 3)) :
    va_Run p l e R s m args below meth c H locs cells slots 0 0 (F0 m pc ls st0) rest (Qe H.size As.toArray) (AA E H.size) := by
  obtain ⟨hx, hb, hml, hown, hts, -, -, hK, -, -, -⟩ := id X
  obtain ⟨⟨g1, g2, g3, g4⟩, gd⟩ := g
  refine va_runS (As := As) (rest := rest) ⟨hx, hb, hml, hown, hts⟩ (hM H.size) (va_cwS n hts ?_ rfl rfl rfl gd hR.1) ⟨PX_blind _ _, fun U hU hW => PX_at X hH _ U hU hW⟩ rfl hn hsz hst (lv_room hW) hdg hR.2
  intro w hw
  unfold va_wsS at hw
  rcases List.mem_append.mp hw with h | h
  · simp only [List.mem_cons, List.not_mem_nil, or_false] at h
    rcases h with rfl | rfl | rfl
    · exact good_law _ g1
    · exact good_law _ g2
    · exact good_law _ g3
  · exact good_c g4 w h
theorem go_i (hH : HH E S s H locs) {r : Int32} {a : Array Value} {st0 : List Value} (hr : va_Run p l e R s m args below meth c H locs cells slots 0 0 (F0 m pc ls st0) rest (QI E r S1 H.size a) (AA E H.size))
    (kk : ∀ (H1 : Heap) (locs1 : List Loc), HH E S1 s H1 locs1 → W p l e R s m args below meth c H1 locs1 cells slots Q (F0 m (pc + 3) ls (.int r :: rest))) : W p l e R s m args below meth c H locs cells slots Q (F0 m pc ls st0) := by
  refine va_calli hr hH.2 (fun q _ h => AA_lt hH q h) (fun q h => AA_lt hH q h) (fun r' u t H1 locs1 ht hvm hw hB hz1 hk1 hS => ?_)
  subst hw
  subst ht
  exact kk _ _ ⟨hB, hS⟩
theorem go_l (hH : HH E S s H locs) {r : Int64} {a : Array Value} {st0 : List Value} (hr : va_Run p l e R s m args below meth c H locs cells slots 0 0 (F0 m pc ls st0) rest (QL E r S1 H.size a) (AA E H.size))
    (kk : ∀ (H1 : Heap) (locs1 : List Loc), HH E S1 s H1 locs1 → W p l e R s m args below meth c H1 locs1 cells slots Q (F0 m (pc + 3) ls (.long r :: rest))) : W p l e R s m args below meth c H locs cells slots Q (F0 m pc ls st0) := by
  refine va_calll hr hH.2 (fun q _ h => AA_lt hH q h) (fun q h => AA_lt hH q h) (fun r' u t H1 locs1 ht hvm hw hB hz1 hk1 hS => ?_)
  subst hw
  subst ht
  exact kk _ _ ⟨hB, hS⟩
theorem go_v (hH : HH E S s H locs) {r : Unit} {a : Array Value} {st0 : List Value} (hr : va_Run p l e R s m args below meth c H locs cells slots 0 0 (F0 m pc ls st0) rest (QV E r S1 H.size a) (AA E H.size))
    (kk : ∀ (H1 : Heap) (locs1 : List Loc), HH E S1 s H1 locs1 → W p l e R s m args below meth c H1 locs1 cells slots Q (F0 m (pc + 3) ls rest)) : W p l e R s m args below meth c H locs cells slots Q (F0 m pc ls st0) := by
  refine va_callv hr hH.2 (fun q _ h => AA_lt hH q h) (fun q h => AA_lt hH q h) (fun u t H1 locs1 ht hvm hw hB hz1 hk1 hS => ?_)
  subst ht
  exact kk _ _ ⟨hB, hS⟩
theorem go_q (hH : HH E S s H locs) {o : Nat} {r : Option Nat} {a : Array Value} {st0 : List Value} (hr : va_Run p l e R s m args below meth c H locs cells slots 0 0 (F0 m pc ls st0) rest (QQ o E r S1 H.size a) (AA E H.size))
    (kk : ∀ (H1 : Heap) (locs1 : List Loc), HH E S1 s H1 locs1 → W p l e R s m args below meth c H1 locs1 cells slots Q (F0 m (pc + 3) ls (va_rf (r.map (fun j => bb E (o + j))) :: rest))) : W p l e R s m args below meth c H locs cells slots Q (F0 m pc ls st0) := by
  refine va_callq hr hH.2 (fun q _ h => AA_lt hH q h) (fun q h => AA_lt hH q h) (fun r' u t H1 locs1 ht hvm hw hB hz1 hk1 hS => ?_)
  subst hw
  subst ht
  exact kk _ _ ⟨hB, hS⟩
theorem r_iret (X : GX p s m meth c args cc nL (some .int) own E) (hH : HH E S s H locs) {v r : Int32} (hf : some (v, S) = some (r, S1)) (hdg : decode cc pc = .ok (.ireturn, 1)) : W p l e R s m args below meth c H locs cells slots (MQ below (QI E r S1 s.heap.size) args s cells slots (AA E s.heap.size)) (F0 m pc ls [.int v]) := by
  obtain ⟨hx, hb, hml, hown, hts, hlocks, hr, hK, -, -, -⟩ := X
  cases hf
  exact W.iret hx hb hr (fun t ht _ => ⟨⟨v, (), rfl, rfl, by show va_P _ _ _ t.heap; rw [ht]; exact hH.1⟩, hH.2.F ht⟩) hH.2.2.2 hdg hlocks
theorem r_zret (X : GX p s m meth c args cc nL (some .boolean) own E) (hH : HH E S s H locs) {v r : Int32} (hn : narrow .boolean (.int v) = .int v) (hf : some (v, S) = some (r, S1)) (hdg : decode cc pc = .ok (.ireturn, 1)) : W p l e R s m args below meth c H locs cells slots (MQ below (QI E r S1 s.heap.size) args s cells slots (AA E s.heap.size)) (F0 m pc ls [.int v]) := by
  obtain ⟨hx, hb, hml, hown, hts, hlocks, hr, hK, -, -, -⟩ := X
  cases hf
  exact W.zret hx hb hr hn (fun t ht _ => ⟨⟨v, (), rfl, rfl, by show va_P _ _ _ t.heap; rw [ht]; exact hH.1⟩, hH.2.F ht⟩) hH.2.2.2 hdg hlocks
theorem r_lret (X : GX p s m meth c args cc nL (some .long) own E) (hH : HH E S s H locs) {v r : Int64} (hf : some (v, S) = some (r, S1)) (hdg : decode cc pc = .ok (.lreturn, 1)) : W p l e R s m args below meth c H locs cells slots (MQ below (QL E r S1 s.heap.size) args s cells slots (AA E s.heap.size)) (F0 m pc ls [.long v]) := by
  obtain ⟨hx, hb, hml, hown, hts, hlocks, hr, hK, -, -, -⟩ := X
  cases hf
  exact W.lret hx hb hr (fun t ht _ => ⟨⟨v, (), rfl, rfl, by show va_P _ _ _ t.heap; rw [ht]; exact hH.1⟩, hH.2.F ht⟩) hH.2.2.2 hdg hlocks
theorem r_vret (X : GX p s m meth c args cc nL none own E) (hH : HH E S s H locs) {r : Unit} (hf : some ((), S) = some (r, S1)) (hdg : decode cc pc = .ok (.return_, 1)) : W p l e R s m args below meth c H locs cells slots (MQ below (QV E r S1 s.heap.size) args s cells slots (AA E s.heap.size)) (F0 m pc ls []) := by
  obtain ⟨hx, hb, hml, hown, hts, hlocks, hr, hK, -, -, -⟩ := X
  cases hf
  exact W.vret hx hb hr (fun t ht _ => ⟨⟨(), rfl, trivial, by show va_P _ _ _ t.heap; rw [ht]; exact hH.1⟩, hH.2.F ht⟩) hH.2.2.2 hdg hlocks
theorem r_aret {o : Nat} {C : String} (X : GX p s m meth c args cc nL (some (.object C)) own E) (hH : HH E S s H locs) {v : Value} {r0 r : Option Nat} (hv : v = va_rf (r0.map (fun j => bb E (o + j)))) (hf : some (r0, S) = some (r, S1)) (hdg : decode cc pc = .ok (.areturn, 1)) : W p l e R s m args below meth c H locs cells slots (MQ below (QQ o E r S1 s.heap.size) args s cells slots (AA E s.heap.size)) (F0 m pc ls [v]) := by
  obtain ⟨hx, hb, hml, hown, hts, hlocks, hr, hK, -, -, -⟩ := X
  cases hf
  subst hv
  refine W.aret hx hb hr (Or.inl ⟨_, rfl⟩) ?_ (fun t ht _ => ⟨⟨_, (), rfl, rfl, by show va_P _ _ _ t.heap; rw [ht]; exact hH.1⟩, hH.2.F ht⟩) hH.2.2.2 hdg hlocks
  cases r0 with
  | none => exact Or.inl rfl
  | some j => exact Or.inr ⟨_, rfl⟩
end calls
end
