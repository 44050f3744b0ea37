/-! helpers of the walks, the fields' rows, the calls' words -/
theorem nb_n {v : Int32} (h : nb v = true) : narrow .boolean (.int v) = .int v := by
  rcases of_decide_eq_true (p := v = 0 ∨ v = 1) h with rfl | rfl <;> decide
theorem HH_eq {E : Ev} {S T : St} {s : State} {H : Heap} {locs : List Loc} (h : S = T) (hH : HH E T s H locs) : HH E S s H locs := h ▸ hH
theorem inb_lt {i : Int32} {n : Nat} (h : inb i n = true) : i.toNatClampNeg < n := by
  have h := of_decide_eq_true (p := ¬ (i < 0 ∨ n ≤ i.toNatClampNeg)) h
  exact Nat.lt_of_not_le (fun z => h (Or.inr z))
theorem inb_6 {i : Int32} (h : inb i 3 = true) : i.toNatClampNeg < 6 := Nat.lt_of_lt_of_le (inb_lt h) (by decide)
theorem inb_36 {i : Int32} (h : inb i 3 = true) : 3 + i.toNatClampNeg < 6 := Nat.add_lt_add_left (inb_lt h) 3
theorem inb_4 {i : Int32} (h : inb i 4 = true) : i.toNatClampNeg < 4 := inb_lt h
theorem l3 {n : Nat} (h : n < 3) : 3 + n < 6 := Nat.add_lt_add_left h 3
theorem mk54 {j : Nat} (h : j < 6) : 20 + j < 54 := by omega
theorem sh54 {j : Nat} (h : j < 4) : 12 + j < 54 := by omega
theorem i32_ne {x v : Int32} (h : ¬ x = v) : x.toInt ≠ v.toInt := fun z => h (Int32.toInt_inj.mp z)
theorem GX_n1 {p : Program} {s : State} {m : MethodId} {meth : Method} {c : Code} {args : Array Value} {cc : ByteArray} {nL : Nat} {ret : Option FieldType} {own : String} {E : Ev} (X : GX p s m meth c args cc nL ret own E) : va_Nw (.methodLinkNest "MacroKeys" 107 yX0_pressesOf "MacroKeys") s := X.2.2.2.2.2.2.2.2.2.2.1
theorem GX_n2 {p : Program} {s : State} {m : MethodId} {meth : Method} {c : Code} {args : Array Value} {cc : ByteArray} {nL : Nat} {ret : Option FieldType} {own : String} {E : Ev} (X : GX p s m meth c args cc nL ret own E) : va_Nw (.methodLinkNest "MacroKeys" 121 yX0_effectOf "MacroKeys") s := X.2.2.2.2.2.2.2.2.2.2.2

theorem rin_1 : ∀ w ∈ wsL_law_r1, w ∈ wsL_law := fun w h => by simp only [wsL_law, List.mem_append, h, true_or, or_true]
theorem rin_2 : ∀ w ∈ wsL_law_r2, w ∈ wsL_law := fun w h => by simp only [wsL_law, List.mem_append, h, true_or, or_true]
theorem rin_3 : ∀ w ∈ wsL_law_r3, w ∈ wsL_law := fun w h => by simp only [wsL_law, List.mem_append, h, true_or, or_true]
theorem rin_4 : ∀ w ∈ wsL_law_r4, w ∈ wsL_law := fun w h => by simp only [wsL_law, List.mem_append, h, true_or, or_true]
theorem rin_5 : ∀ w ∈ wsL_law_r5, w ∈ wsL_law := fun w h => by simp only [wsL_law, List.mem_append, h, true_or, or_true]
theorem rin_6 : ∀ w ∈ wsL_law_r6, w ∈ wsL_law := fun w h => by simp only [wsL_law, List.mem_append, h, true_or, or_true]
theorem rin_7 : ∀ w ∈ wsL_law_r7, w ∈ wsL_law := fun w h => by simp only [wsL_law, List.mem_append, h, true_or, or_true]
theorem rin_8 : ∀ w ∈ wsL_law_r8, w ∈ wsL_law := fun w h => by simp only [wsL_law, List.mem_append, h, true_or, or_true]
theorem rin_9 : ∀ w ∈ wsL_law_r9, w ∈ wsL_law := fun w h => by simp only [wsL_law, List.mem_append, h, true_or, or_true]
theorem rin_10 : ∀ w ∈ wsL_law_r10, w ∈ wsL_law := fun w h => by simp only [wsL_law, List.mem_append, h, true_or, or_true]
theorem rin_11 : ∀ w ∈ wsL_law_r11, w ∈ wsL_law := fun w h => by simp only [wsL_law, List.mem_append, h, true_or, or_true]
theorem rin_12 : ∀ w ∈ wsL_law_r12, w ∈ wsL_law := fun w h => by simp only [wsL_law, List.mem_append, h, true_or, or_true]
theorem rin_13 : ∀ w ∈ wsL_law_r13, w ∈ wsL_law := fun w h => by simp only [wsL_law, List.mem_append, h, true_or, or_true]
theorem rin_14 : ∀ w ∈ wsL_law_r14, w ∈ wsL_law := fun w h => by simp only [wsL_law, List.mem_append, h, true_or, or_true]
theorem rin_15 : ∀ w ∈ wsL_law_r15, w ∈ wsL_law := fun w h => by simp only [wsL_law, List.mem_append, h, true_or, or_true]
theorem rin_16 : ∀ w ∈ wsL_law_r16, w ∈ wsL_law := fun w h => by simp only [wsL_law, List.mem_append, h, true_or, or_true]
theorem rin_17 : ∀ w ∈ wsL_law_r17, w ∈ wsL_law := fun w h => by simp only [wsL_law, List.mem_append, h, true_or, or_true]
theorem rin_18 : ∀ w ∈ wsL_law_r18, w ∈ wsL_law := fun w h => by simp only [wsL_law, List.mem_append, h, true_or, or_true]
theorem rin_19 : ∀ w ∈ wsL_law_r19, w ∈ wsL_law := fun w h => by simp only [wsL_law, List.mem_append, h, true_or, or_true]
theorem rin_20 : ∀ w ∈ wsL_law_r20, w ∈ wsL_law := fun w h => by simp only [wsL_law, List.mem_append, h, true_or, or_true]
theorem rin_21 : ∀ w ∈ wsL_law_r21, w ∈ wsL_law := fun w h => by simp only [wsL_law, List.mem_append, h, true_or, or_true]
theorem rin_22 : ∀ w ∈ wsL_law_r22, w ∈ wsL_law := fun w h => by simp only [wsL_law, List.mem_append, h, true_or, or_true]
theorem rin_23 : ∀ w ∈ wsL_law_r23, w ∈ wsL_law := fun w h => by simp only [wsL_law, List.mem_append, h, true_or, or_true]
theorem rin_24 : ∀ w ∈ wsL_law_r24, w ∈ wsL_law := fun w h => by simp only [wsL_law, List.mem_append, h, true_or, or_true]
theorem rin_25 : ∀ w ∈ wsL_law_r25, w ∈ wsL_law := fun w h => by simp only [wsL_law, List.mem_append, h, true_or, or_true]
theorem rin_26 : ∀ w ∈ wsL_law_r26, w ∈ wsL_law := fun w h => by simp only [wsL_law, List.mem_append, h, true_or, or_true]
theorem rin_27 : ∀ w ∈ wsL_law_r27, w ∈ wsL_law := fun w h => by simp only [wsL_law, List.mem_append, h, true_or, or_true]
theorem rin_28 : ∀ w ∈ wsL_law_r28, w ∈ wsL_law := fun w h => by simp only [wsL_law, List.mem_append, h, true_or, or_true]
theorem rin_29 : ∀ w ∈ wsL_law_r29, w ∈ wsL_law := fun w h => by simp only [wsL_law, List.mem_append, h, true_or, or_true]
theorem rin_30 : ∀ w ∈ wsL_law_r30, w ∈ wsL_law := fun w h => by simp only [wsL_law, List.mem_append, h, true_or, or_true]
theorem rin_31 : ∀ w ∈ wsL_law_r31, w ∈ wsL_law := fun w h => by simp only [wsL_law, List.mem_append, h, true_or, or_true]
theorem rin_32 : ∀ w ∈ wsL_law_r32, w ∈ wsL_law := fun w h => by simp only [wsL_law, List.mem_append, h, true_or, or_true]
theorem q_1_2 : Cond.initialized RX6 ∈ wsL_law := rin_1 _ (List.mem_of_getElem? (i := 2) rfl)
theorem q_1_5 : Cond.initialized RX7 ∈ wsL_law := rin_1 _ (List.mem_of_getElem? (i := 5) rfl)
theorem q_1_14 : Cond.initialized RX0 ∈ wsL_law := rin_1 _ (List.mem_of_getElem? (i := 14) rfl)
theorem q_1_15 : Cond.fieldLink RX6 12 "MacroKeys" "board" "LMacroKeys$Board;" ∈ wsL_law := rin_1 _ (List.mem_of_getElem? (i := 15) rfl)
theorem q_1_18 : Cond.initialized RX3 ∈ wsL_law := rin_1 _ (List.mem_of_getElem? (i := 18) rfl)
theorem q_1_19 : Cond.fieldLink RX6 21 "MacroKeys" "reader" "LMacroKeys$Reader;" ∈ wsL_law := rin_1 _ (List.mem_of_getElem? (i := 19) rfl)
theorem q_1_22 : Cond.initialized RX4 ∈ wsL_law := rin_1 _ (List.mem_of_getElem? (i := 22) rfl)
theorem q_1_23 : Cond.fieldLink RX6 28 "MacroKeys" "search" "LMacroKeys$Search;" ∈ wsL_law := rin_1 _ (List.mem_of_getElem? (i := 23) rfl)
theorem q_2_2 : Cond.initialized RX5 ∈ wsL_law := rin_2 _ (List.mem_of_getElem? (i := 2) rfl)
theorem q_2_3 : Cond.fieldLink RX6 35 "MacroKeys" "sheets" "[LMacroKeys$Sheet;" ∈ wsL_law := rin_2 _ (List.mem_of_getElem? (i := 3) rfl)
theorem q_2_5 : Cond.fieldLink RX6 39 "MacroKeys" "readMacros" "[I" ∈ wsL_law := rin_2 _ (List.mem_of_getElem? (i := 5) rfl)
theorem q_2_6 : Cond.fieldLink RX6 43 "MacroKeys" "readLetters" "[I" ∈ wsL_law := rin_2 _ (List.mem_of_getElem? (i := 6) rfl)
theorem q_2_7 : Cond.fieldLink RX6 48 "MacroKeys" "line" "I" ∈ wsL_law := rin_2 _ (List.mem_of_getElem? (i := 7) rfl)
theorem q_2_8 : Cond.fieldLink RX6 52 "MacroKeys" "latestFault" "I" ∈ wsL_law := rin_2 _ (List.mem_of_getElem? (i := 8) rfl)
theorem q_2_14 : Cond.initialized RX2 ∈ wsL_law := rin_2 _ (List.mem_of_getElem? (i := 14) rfl)
theorem q_2_15 : Cond.fieldLink RX0 12 "MacroKeys$Board" "macros" "[LMacroKeys$Macro;" ∈ wsL_law := rin_2 _ (List.mem_of_getElem? (i := 15) rfl)
theorem q_2_16 : Cond.fieldLink RX0 20 "MacroKeys$Board" "effects" "[I" ∈ wsL_law := rin_2 _ (List.mem_of_getElem? (i := 16) rfl)
theorem q_2_20 : Cond.fieldLink RX2 9 "MacroKeys$Macro" "keys" "[I" ∈ wsL_law := rin_2 _ (List.mem_of_getElem? (i := 20) rfl)
theorem q_3_1 : Cond.fieldLink RX3 12 "MacroKeys$Reader" "macros" "[LMacroKeys$Macro;" ∈ wsL_law := rin_3 _ (List.mem_of_getElem? (i := 1) rfl)
theorem q_3_2 : Cond.fieldLink RX3 18 "MacroKeys$Reader" "latest" "LMacroKeys$Macro;" ∈ wsL_law := rin_3 _ (List.mem_of_getElem? (i := 2) rfl)
theorem q_3_6 : Cond.fieldLink RX4 11 "MacroKeys$Search" "queue" "[I" ∈ wsL_law := rin_3 _ (List.mem_of_getElem? (i := 6) rfl)
theorem q_3_7 : Cond.fieldLink RX4 17 "MacroKeys$Search" "cameBy" "[I" ∈ wsL_law := rin_3 _ (List.mem_of_getElem? (i := 7) rfl)
theorem q_3_11 : Cond.fieldLink RX5 9 "MacroKeys$Sheet" "lane" "I" ∈ wsL_law := rin_3 _ (List.mem_of_getElem? (i := 11) rfl)
theorem q_3_12 : Cond.fieldLink RX5 15 "MacroKeys$Sheet" "cells" "[I" ∈ wsL_law := rin_3 _ (List.mem_of_getElem? (i := 12) rfl)
theorem q_3_17 : Cond.fieldLink RX7 9 "MacroKeysModel" "sorts" "[I" ∈ wsL_law := rin_3 _ (List.mem_of_getElem? (i := 17) rfl)
theorem q_3_18 : Cond.fieldLink RX7 13 "MacroKeysModel" "sheetLong" "[I" ∈ wsL_law := rin_3 _ (List.mem_of_getElem? (i := 18) rfl)
theorem q_3_19 : Cond.fieldLink RX7 16 "MacroKeysModel" "cells" "[I" ∈ wsL_law := rin_3 _ (List.mem_of_getElem? (i := 19) rfl)
theorem q_3_20 : Cond.fieldLink RX7 19 "MacroKeysModel" "kind" "[I" ∈ wsL_law := rin_3 _ (List.mem_of_getElem? (i := 20) rfl)
theorem q_3_21 : Cond.fieldLink RX7 22 "MacroKeysModel" "times" "[I" ∈ wsL_law := rin_3 _ (List.mem_of_getElem? (i := 21) rfl)
theorem q_3_22 : Cond.fieldLink RX7 25 "MacroKeysModel" "keysOn" "[I" ∈ wsL_law := rin_3 _ (List.mem_of_getElem? (i := 22) rfl)
theorem q_3_23 : Cond.fieldLink RX7 28 "MacroKeysModel" "keys" "[I" ∈ wsL_law := rin_3 _ (List.mem_of_getElem? (i := 23) rfl)
theorem q_4_0 : Cond.fieldLink RX7 31 "MacroKeysModel" "readKind" "[I" ∈ wsL_law := rin_4 _ (List.mem_of_getElem? (i := 0) rfl)
theorem q_4_1 : Cond.fieldLink RX7 34 "MacroKeysModel" "readTimes" "[I" ∈ wsL_law := rin_4 _ (List.mem_of_getElem? (i := 1) rfl)
theorem q_4_2 : Cond.fieldLink RX7 37 "MacroKeysModel" "readOn" "[I" ∈ wsL_law := rin_4 _ (List.mem_of_getElem? (i := 2) rfl)
theorem q_4_3 : Cond.fieldLink RX7 40 "MacroKeysModel" "readKeys" "[I" ∈ wsL_law := rin_4 _ (List.mem_of_getElem? (i := 3) rfl)
theorem q_4_4 : Cond.fieldLink RX7 43 "MacroKeysModel" "pressesOf" "[I" ∈ wsL_law := rin_4 _ (List.mem_of_getElem? (i := 4) rfl)
theorem q_4_5 : Cond.fieldLink RX7 46 "MacroKeysModel" "letters" "[I" ∈ wsL_law := rin_4 _ (List.mem_of_getElem? (i := 5) rfl)
theorem q_4_6 : Cond.fieldLink RX7 49 "MacroKeysModel" "under" "[I" ∈ wsL_law := rin_4 _ (List.mem_of_getElem? (i := 6) rfl)
theorem q_4_7 : Cond.fieldLink RX7 52 "MacroKeysModel" "timesLeft" "[I" ∈ wsL_law := rin_4 _ (List.mem_of_getElem? (i := 7) rfl)
theorem q_4_8 : Cond.fieldLink RX7 55 "MacroKeysModel" "nextKey" "[I" ∈ wsL_law := rin_4 _ (List.mem_of_getElem? (i := 8) rfl)
theorem q_4_10 : Cond.fieldLink RX7 59 "MacroKeysModel" "makes" "[I" ∈ wsL_law := rin_4 _ (List.mem_of_getElem? (i := 10) rfl)
theorem q_4_11 : Cond.fieldLink RX7 62 "MacroKeysModel" "far" "[I" ∈ wsL_law := rin_4 _ (List.mem_of_getElem? (i := 11) rfl)
theorem q_4_12 : Cond.fieldLink RX7 65 "MacroKeysModel" "seen" "[I" ∈ wsL_law := rin_4 _ (List.mem_of_getElem? (i := 12) rfl)
theorem q_4_13 : Cond.fieldLink RX7 68 "MacroKeysModel" "readMacro" "[I" ∈ wsL_law := rin_4 _ (List.mem_of_getElem? (i := 13) rfl)
theorem q_4_14 : Cond.fieldLink RX7 71 "MacroKeysModel" "readLetters" "[I" ∈ wsL_law := rin_4 _ (List.mem_of_getElem? (i := 14) rfl)
theorem q_4_15 : Cond.methodLink RL 13 yX6_macros ∈ wsL_law := rin_4 _ (List.mem_of_getElem? (i := 15) rfl)
theorem q_4_16 : Cond.instanceMethod yX6_macros ∈ wsL_law := rin_4 _ (List.mem_of_getElem? (i := 16) rfl)
theorem q_4_17 : Cond.selects RX6 yX6_macros yX6_macros ∈ wsL_law := rin_4 _ (List.mem_of_getElem? (i := 17) rfl)
theorem q_4_18 : Cond.code yX6_macros cX6_macros 8 (some .int) ∈ wsL_law := rin_4 _ (List.mem_of_getElem? (i := 18) rfl)
theorem q_4_19 : Cond.fieldLink RX6 79 "MacroKeys" "pressed" "I" ∈ wsL_law := rin_4 _ (List.mem_of_getElem? (i := 19) rfl)
theorem q_4_20 : Cond.fieldLink RX6 82 "MacroKeys" "readings" "I" ∈ wsL_law := rin_4 _ (List.mem_of_getElem? (i := 20) rfl)
theorem q_4_21 : Cond.fieldLink RX6 85 "MacroKeys$Board" "many" "I" ∈ wsL_law := rin_4 _ (List.mem_of_getElem? (i := 21) rfl)
theorem q_4_22 : Cond.methodLink RX6 55 yX6_sheetOf ∈ wsL_law := rin_4 _ (List.mem_of_getElem? (i := 22) rfl)
theorem q_4_23 : Cond.instanceMethod yX6_sheetOf ∈ wsL_law := rin_4 _ (List.mem_of_getElem? (i := 23) rfl)
theorem q_5_0 : Cond.selects RX6 yX6_sheetOf yX6_sheetOf ∈ wsL_law := rin_5 _ (List.mem_of_getElem? (i := 0) rfl)
theorem q_5_1 : Cond.code yX6_sheetOf cX6_sheetOf 2 (some (.object "MacroKeys$Sheet")) ∈ wsL_law := rin_5 _ (List.mem_of_getElem? (i := 1) rfl)
theorem q_5_2 : Cond.methodLink RX6 59 yX6_isLane ∈ wsL_law := rin_5 _ (List.mem_of_getElem? (i := 2) rfl)
theorem q_5_3 : Cond.static yX6_isLane ∈ wsL_law := rin_5 _ (List.mem_of_getElem? (i := 3) rfl)
theorem q_5_4 : Cond.code yX6_isLane cX6_isLane 1 (some .boolean) ∈ wsL_law := rin_5 _ (List.mem_of_getElem? (i := 4) rfl)
theorem q_5_5 : Cond.methodLink RX6 63 yX5_faultOf ∈ wsL_law := rin_5 _ (List.mem_of_getElem? (i := 5) rfl)
theorem q_5_6 : Cond.instanceMethod yX5_faultOf ∈ wsL_law := rin_5 _ (List.mem_of_getElem? (i := 6) rfl)
theorem q_5_7 : Cond.selects RX5 yX5_faultOf yX5_faultOf ∈ wsL_law := rin_5 _ (List.mem_of_getElem? (i := 7) rfl)
theorem q_5_8 : Cond.code yX5_faultOf cX5_faultOf 4 (some .int) ∈ wsL_law := rin_5 _ (List.mem_of_getElem? (i := 8) rfl)
theorem q_5_9 : Cond.methodLink RX5 28 yX5_hasAll ∈ wsL_law := rin_5 _ (List.mem_of_getElem? (i := 9) rfl)
theorem q_5_10 : Cond.instanceMethod yX5_hasAll ∈ wsL_law := rin_5 _ (List.mem_of_getElem? (i := 10) rfl)
theorem q_5_11 : Cond.selects RX5 yX5_hasAll yX5_hasAll ∈ wsL_law := rin_5 _ (List.mem_of_getElem? (i := 11) rfl)
theorem q_5_12 : Cond.code yX5_hasAll cX5_hasAll 3 (some .boolean) ∈ wsL_law := rin_5 _ (List.mem_of_getElem? (i := 12) rfl)
theorem q_5_13 : Cond.fieldLink RX5 19 "MacroKeys$Sheet" "count" "I" ∈ wsL_law := rin_5 _ (List.mem_of_getElem? (i := 13) rfl)
theorem q_5_14 : Cond.methodLink RX6 67 yX6_meet ∈ wsL_law := rin_5 _ (List.mem_of_getElem? (i := 14) rfl)
theorem q_5_15 : Cond.instanceMethod yX6_meet ∈ wsL_law := rin_5 _ (List.mem_of_getElem? (i := 15) rfl)
theorem q_5_16 : Cond.selects RX6 yX6_meet yX6_meet ∈ wsL_law := rin_5 _ (List.mem_of_getElem? (i := 16) rfl)
theorem q_5_17 : Cond.code yX6_meet cX6_meet 2 (some .int) ∈ wsL_law := rin_5 _ (List.mem_of_getElem? (i := 17) rfl)
theorem q_5_18 : Cond.methodLink RX6 71 yX3_firstFault ∈ wsL_law := rin_5 _ (List.mem_of_getElem? (i := 18) rfl)
theorem q_5_19 : Cond.instanceMethod yX3_firstFault ∈ wsL_law := rin_5 _ (List.mem_of_getElem? (i := 19) rfl)
theorem q_5_20 : Cond.selects RX3 yX3_firstFault yX3_firstFault ∈ wsL_law := rin_5 _ (List.mem_of_getElem? (i := 20) rfl)
theorem q_5_21 : Cond.code yX3_firstFault cX3_firstFault 5 (some .int) ∈ wsL_law := rin_5 _ (List.mem_of_getElem? (i := 21) rfl)
theorem q_5_22 : Cond.fieldLink RX3 22 "MacroKeys$Reader" "stage" "I" ∈ wsL_law := rin_5 _ (List.mem_of_getElem? (i := 22) rfl)
theorem q_5_23 : Cond.fieldLink RX3 26 "MacroKeys$Reader" "many" "I" ∈ wsL_law := rin_5 _ (List.mem_of_getElem? (i := 23) rfl)
theorem q_6_0 : Cond.fieldLink RX3 29 "MacroKeys$Sheet" "cells" "[I" ∈ wsL_law := rin_6 _ (List.mem_of_getElem? (i := 0) rfl)
theorem q_6_1 : Cond.methodLink RX3 35 yX3_goesOn ∈ wsL_law := rin_6 _ (List.mem_of_getElem? (i := 1) rfl)
theorem q_6_2 : Cond.instanceMethod yX3_goesOn ∈ wsL_law := rin_6 _ (List.mem_of_getElem? (i := 2) rfl)
theorem q_6_3 : Cond.selects RX3 yX3_goesOn yX3_goesOn ∈ wsL_law := rin_6 _ (List.mem_of_getElem? (i := 3) rfl)
theorem q_6_4 : Cond.code yX3_goesOn cX3_goesOn 2 (some .boolean) ∈ wsL_law := rin_6 _ (List.mem_of_getElem? (i := 4) rfl)
theorem q_6_5 : Cond.methodLink RX3 43 yX3_begins ∈ wsL_law := rin_6 _ (List.mem_of_getElem? (i := 5) rfl)
theorem q_6_6 : Cond.instanceMethod yX3_begins ∈ wsL_law := rin_6 _ (List.mem_of_getElem? (i := 6) rfl)
theorem q_6_7 : Cond.selects RX3 yX3_begins yX3_begins ∈ wsL_law := rin_6 _ (List.mem_of_getElem? (i := 7) rfl)
theorem q_6_8 : Cond.code yX3_begins cX3_begins 2 (some .boolean) ∈ wsL_law := rin_6 _ (List.mem_of_getElem? (i := 8) rfl)
theorem q_6_9 : Cond.methodLink RX3 46 yX3_marks ∈ wsL_law := rin_6 _ (List.mem_of_getElem? (i := 9) rfl)
theorem q_6_10 : Cond.instanceMethod yX3_marks ∈ wsL_law := rin_6 _ (List.mem_of_getElem? (i := 10) rfl)
theorem q_6_11 : Cond.selects RX3 yX3_marks yX3_marks ∈ wsL_law := rin_6 _ (List.mem_of_getElem? (i := 11) rfl)
theorem q_6_12 : Cond.code yX3_marks cX3_marks 2 (some .boolean) ∈ wsL_law := rin_6 _ (List.mem_of_getElem? (i := 12) rfl)
theorem q_6_13 : Cond.fieldLink RX3 58 "MacroKeys$Macro" "count" "I" ∈ wsL_law := rin_6 _ (List.mem_of_getElem? (i := 13) rfl)
theorem q_6_14 : Cond.methodLink RX3 49 yX3_tellsKind ∈ wsL_law := rin_6 _ (List.mem_of_getElem? (i := 14) rfl)
theorem q_6_15 : Cond.instanceMethod yX3_tellsKind ∈ wsL_law := rin_6 _ (List.mem_of_getElem? (i := 15) rfl)
theorem q_6_16 : Cond.selects RX3 yX3_tellsKind yX3_tellsKind ∈ wsL_law := rin_6 _ (List.mem_of_getElem? (i := 16) rfl)
theorem q_6_17 : Cond.code yX3_tellsKind cX3_tellsKind 2 (some .boolean) ∈ wsL_law := rin_6 _ (List.mem_of_getElem? (i := 17) rfl)
theorem q_6_18 : Cond.fieldLink RX3 61 "MacroKeys$Macro" "kind" "I" ∈ wsL_law := rin_6 _ (List.mem_of_getElem? (i := 18) rfl)
theorem q_6_19 : Cond.methodLink RX3 52 yX3_tellsTimes ∈ wsL_law := rin_6 _ (List.mem_of_getElem? (i := 19) rfl)
theorem q_6_20 : Cond.instanceMethod yX3_tellsTimes ∈ wsL_law := rin_6 _ (List.mem_of_getElem? (i := 20) rfl)
theorem q_6_21 : Cond.selects RX3 yX3_tellsTimes yX3_tellsTimes ∈ wsL_law := rin_6 _ (List.mem_of_getElem? (i := 21) rfl)
theorem q_6_22 : Cond.code yX3_tellsTimes cX3_tellsTimes 2 (some .boolean) ∈ wsL_law := rin_6 _ (List.mem_of_getElem? (i := 22) rfl)
theorem q_6_23 : Cond.fieldLink RX3 64 "MacroKeys$Macro" "timing" "I" ∈ wsL_law := rin_6 _ (List.mem_of_getElem? (i := 23) rfl)
theorem q_7_0 : Cond.methodLink RX3 55 yX3_addsKey ∈ wsL_law := rin_7 _ (List.mem_of_getElem? (i := 0) rfl)
theorem q_7_1 : Cond.instanceMethod yX3_addsKey ∈ wsL_law := rin_7 _ (List.mem_of_getElem? (i := 1) rfl)
theorem q_7_2 : Cond.selects RX3 yX3_addsKey yX3_addsKey ∈ wsL_law := rin_7 _ (List.mem_of_getElem? (i := 2) rfl)
theorem q_7_3 : Cond.code yX3_addsKey cX3_addsKey 3 (some .boolean) ∈ wsL_law := rin_7 _ (List.mem_of_getElem? (i := 3) rfl)
theorem q_7_4 : Cond.fieldLink RX3 71 "MacroKeys$Macro" "keys" "[I" ∈ wsL_law := rin_7 _ (List.mem_of_getElem? (i := 4) rfl)
theorem q_7_5 : Cond.methodLink RX3 67 yX3_keyOf ∈ wsL_law := rin_7 _ (List.mem_of_getElem? (i := 5) rfl)
theorem q_7_6 : Cond.instanceMethod yX3_keyOf ∈ wsL_law := rin_7 _ (List.mem_of_getElem? (i := 6) rfl)
theorem q_7_7 : Cond.selects RX3 yX3_keyOf yX3_keyOf ∈ wsL_law := rin_7 _ (List.mem_of_getElem? (i := 7) rfl)
theorem q_7_8 : Cond.code yX3_keyOf cX3_keyOf 3 (some .int) ∈ wsL_law := rin_7 _ (List.mem_of_getElem? (i := 8) rfl)
theorem q_7_9 : Cond.methodLink RX3 39 yX3_hasKeys ∈ wsL_law := rin_7 _ (List.mem_of_getElem? (i := 9) rfl)
theorem q_7_10 : Cond.instanceMethod yX3_hasKeys ∈ wsL_law := rin_7 _ (List.mem_of_getElem? (i := 10) rfl)
theorem q_7_11 : Cond.selects RX3 yX3_hasKeys yX3_hasKeys ∈ wsL_law := rin_7 _ (List.mem_of_getElem? (i := 11) rfl)
theorem q_7_12 : Cond.code yX3_hasKeys cX3_hasKeys 1 (some .boolean) ∈ wsL_law := rin_7 _ (List.mem_of_getElem? (i := 12) rfl)
theorem q_7_13 : Cond.methodLink RX6 75 yX0_become ∈ wsL_law := rin_7 _ (List.mem_of_getElem? (i := 13) rfl)
theorem q_7_14 : Cond.instanceMethod yX0_become ∈ wsL_law := rin_7 _ (List.mem_of_getElem? (i := 14) rfl)
theorem q_7_15 : Cond.selects RX0 yX0_become yX0_become ∈ wsL_law := rin_7 _ (List.mem_of_getElem? (i := 15) rfl)
theorem q_7_16 : Cond.code yX0_become cX0_become 3 none ∈ wsL_law := rin_7 _ (List.mem_of_getElem? (i := 16) rfl)
theorem q_7_17 : Cond.fieldLink RX0 24 "MacroKeys$Reader" "many" "I" ∈ wsL_law := rin_7 _ (List.mem_of_getElem? (i := 17) rfl)
theorem q_7_18 : Cond.fieldLink RX0 30 "MacroKeys$Board" "many" "I" ∈ wsL_law := rin_7 _ (List.mem_of_getElem? (i := 18) rfl)
theorem q_7_19 : Cond.fieldLink RX0 31 "MacroKeys$Reader" "macros" "[LMacroKeys$Macro;" ∈ wsL_law := rin_7 _ (List.mem_of_getElem? (i := 19) rfl)
theorem q_7_20 : Cond.methodLink RX0 32 yX2_become ∈ wsL_law := rin_7 _ (List.mem_of_getElem? (i := 20) rfl)
theorem q_7_21 : Cond.instanceMethod yX2_become ∈ wsL_law := rin_7 _ (List.mem_of_getElem? (i := 21) rfl)
theorem q_7_22 : Cond.selects RX2 yX2_become yX2_become ∈ wsL_law := rin_7 _ (List.mem_of_getElem? (i := 22) rfl)
theorem q_7_23 : Cond.code yX2_become cX2_become 2 none ∈ wsL_law := rin_7 _ (List.mem_of_getElem? (i := 23) rfl)
theorem q_8_0 : Cond.fieldLink RX2 15 "MacroKeys$Macro" "kind" "I" ∈ wsL_law := rin_8 _ (List.mem_of_getElem? (i := 0) rfl)
theorem q_8_1 : Cond.fieldLink RX2 19 "MacroKeys$Macro" "timing" "I" ∈ wsL_law := rin_8 _ (List.mem_of_getElem? (i := 1) rfl)
theorem q_8_2 : Cond.fieldLink RX2 22 "MacroKeys$Macro" "count" "I" ∈ wsL_law := rin_8 _ (List.mem_of_getElem? (i := 2) rfl)
theorem q_8_3 : Cond.methodLink RX2 25 arraycopyName ∈ wsL_law := rin_8 _ (List.mem_of_getElem? (i := 3) rfl)
theorem q_8_4 : Cond.native arraycopyName ∈ wsL_law := rin_8 _ (List.mem_of_getElem? (i := 4) rfl)
theorem q_8_5 : Cond.static arraycopyName ∈ wsL_law := rin_8 _ (List.mem_of_getElem? (i := 5) rfl)
theorem q_8_6 : Cond.initialized "java/lang/System" ∈ wsL_law := rin_8 _ (List.mem_of_getElem? (i := 6) rfl)
theorem q_8_7 : Cond.methodLink RX0 36 yX0_forget ∈ wsL_law := rin_8 _ (List.mem_of_getElem? (i := 7) rfl)
theorem q_8_8 : Cond.instanceMethod yX0_forget ∈ wsL_law := rin_8 _ (List.mem_of_getElem? (i := 8) rfl)
theorem q_8_9 : Cond.selects RX0 yX0_forget yX0_forget ∈ wsL_law := rin_8 _ (List.mem_of_getElem? (i := 9) rfl)
theorem q_8_10 : Cond.code yX0_forget cX0_forget 2 none ∈ wsL_law := rin_8 _ (List.mem_of_getElem? (i := 10) rfl)
theorem q_8_11 : Cond.methodLink RX0 54 yJ7_fill_fda19 ∈ wsL_law := rin_8 _ (List.mem_of_getElem? (i := 11) rfl)
theorem q_8_12 : Cond.static yJ7_fill_fda19 ∈ wsL_law := rin_8 _ (List.mem_of_getElem? (i := 12) rfl)
theorem q_8_13 : Cond.initialized RJ7 ∈ wsL_law := rin_8 _ (List.mem_of_getElem? (i := 13) rfl)
theorem q_8_14 : Cond.code yJ7_fill_fda19 cJ7_fill_fda19 5 none ∈ wsL_law := rin_8 _ (List.mem_of_getElem? (i := 14) rfl)
theorem q_8_15 : Cond.methodLink RJ7 13 yJ7_rangeCheck_23922 ∈ wsL_law := rin_8 _ (List.mem_of_getElem? (i := 15) rfl)
theorem q_8_16 : Cond.static yJ7_rangeCheck_23922 ∈ wsL_law := rin_8 _ (List.mem_of_getElem? (i := 16) rfl)
theorem q_8_17 : Cond.code yJ7_rangeCheck_23922 cJ7_rangeCheck_23922 3 none ∈ wsL_law := rin_8 _ (List.mem_of_getElem? (i := 17) rfl)
theorem q_8_18 : Cond.methodLink RL 17 yX7_macros ∈ wsL_law := rin_8 _ (List.mem_of_getElem? (i := 18) rfl)
theorem q_8_19 : Cond.instanceMethod yX7_macros ∈ wsL_law := rin_8 _ (List.mem_of_getElem? (i := 19) rfl)
theorem q_8_20 : Cond.selects RX7 yX7_macros yX7_macros ∈ wsL_law := rin_8 _ (List.mem_of_getElem? (i := 20) rfl)
theorem q_8_21 : Cond.code yX7_macros cX7_macros 9 (some .int) ∈ wsL_law := rin_8 _ (List.mem_of_getElem? (i := 21) rfl)
theorem q_8_22 : Cond.fieldLink RX7 74 "MacroKeysModel" "fault" "I" ∈ wsL_law := rin_8 _ (List.mem_of_getElem? (i := 22) rfl)
theorem q_8_23 : Cond.fieldLink RX7 102 "MacroKeysModel" "at" "I" ∈ wsL_law := rin_8 _ (List.mem_of_getElem? (i := 23) rfl)
theorem q_9_0 : Cond.fieldLink RX7 108 "MacroKeysModel" "readMacros" "I" ∈ wsL_law := rin_9 _ (List.mem_of_getElem? (i := 0) rfl)
theorem q_9_1 : Cond.fieldLink RX7 84 "MacroKeysModel" "macros" "I" ∈ wsL_law := rin_9 _ (List.mem_of_getElem? (i := 1) rfl)
theorem q_9_2 : Cond.fieldLink RX7 111 "MacroKeysModel" "lineNow" "I" ∈ wsL_law := rin_9 _ (List.mem_of_getElem? (i := 2) rfl)
theorem q_9_3 : Cond.fieldLink RX7 114 "MacroKeysModel" "pressed" "I" ∈ wsL_law := rin_9 _ (List.mem_of_getElem? (i := 3) rfl)
theorem q_9_4 : Cond.fieldLink RX7 117 "MacroKeysModel" "readings" "I" ∈ wsL_law := rin_9 _ (List.mem_of_getElem? (i := 4) rfl)
theorem q_9_5 : Cond.fieldLink RX7 120 "MacroKeysModel" "areFound" "Z" ∈ wsL_law := rin_9 _ (List.mem_of_getElem? (i := 5) rfl)
theorem q_9_6 : Cond.methodLink RX7 87 yX7_isSheet ∈ wsL_law := rin_9 _ (List.mem_of_getElem? (i := 6) rfl)
theorem q_9_7 : Cond.static yX7_isSheet ∈ wsL_law := rin_9 _ (List.mem_of_getElem? (i := 7) rfl)
theorem q_9_8 : Cond.code yX7_isSheet cX7_isSheet 1 (some .boolean) ∈ wsL_law := rin_9 _ (List.mem_of_getElem? (i := 8) rfl)
theorem q_9_9 : Cond.methodLink RX7 80 yX7_within ∈ wsL_law := rin_9 _ (List.mem_of_getElem? (i := 9) rfl)
theorem q_9_10 : Cond.static yX7_within ∈ wsL_law := rin_9 _ (List.mem_of_getElem? (i := 10) rfl)
theorem q_9_11 : Cond.code yX7_within cX7_within 3 (some .boolean) ∈ wsL_law := rin_9 _ (List.mem_of_getElem? (i := 11) rfl)
theorem q_9_12 : Cond.methodLink RX7 91 yX7_isSort ∈ wsL_law := rin_9 _ (List.mem_of_getElem? (i := 12) rfl)
theorem q_9_13 : Cond.static yX7_isSort ∈ wsL_law := rin_9 _ (List.mem_of_getElem? (i := 13) rfl)
theorem q_9_14 : Cond.code yX7_isSort cX7_isSort 1 (some .boolean) ∈ wsL_law := rin_9 _ (List.mem_of_getElem? (i := 14) rfl)
theorem q_9_15 : Cond.methodLink RX7 94 yX7_against ∈ wsL_law := rin_9 _ (List.mem_of_getElem? (i := 15) rfl)
theorem q_9_16 : Cond.instanceMethod yX7_against ∈ wsL_law := rin_9 _ (List.mem_of_getElem? (i := 16) rfl)
theorem q_9_17 : Cond.selects RX7 yX7_against yX7_against ∈ wsL_law := rin_9 _ (List.mem_of_getElem? (i := 17) rfl)
theorem q_9_18 : Cond.code yX7_against cX7_against 5 (some .int) ∈ wsL_law := rin_9 _ (List.mem_of_getElem? (i := 18) rfl)
theorem q_9_19 : Cond.methodLink RX7 98 yX7_fails ∈ wsL_law := rin_9 _ (List.mem_of_getElem? (i := 19) rfl)
theorem q_9_20 : Cond.instanceMethod yX7_fails ∈ wsL_law := rin_9 _ (List.mem_of_getElem? (i := 20) rfl)
theorem q_9_21 : Cond.selects RX7 yX7_fails yX7_fails ∈ wsL_law := rin_9 _ (List.mem_of_getElem? (i := 21) rfl)
theorem q_9_22 : Cond.code yX7_fails cX7_fails 2 (some .int) ∈ wsL_law := rin_9 _ (List.mem_of_getElem? (i := 22) rfl)
theorem q_9_23 : Cond.methodLink RX7 105 yX7_readMacrosAll ∈ wsL_law := rin_9 _ (List.mem_of_getElem? (i := 23) rfl)
theorem q_10_0 : Cond.instanceMethod yX7_readMacrosAll ∈ wsL_law := rin_10 _ (List.mem_of_getElem? (i := 0) rfl)
theorem q_10_1 : Cond.selects RX7 yX7_readMacrosAll yX7_readMacrosAll ∈ wsL_law := rin_10 _ (List.mem_of_getElem? (i := 1) rfl)
theorem q_10_2 : Cond.code yX7_readMacrosAll cX7_readMacrosAll 2 (some .boolean) ∈ wsL_law := rin_10 _ (List.mem_of_getElem? (i := 2) rfl)
theorem q_10_3 : Cond.methodLink RX7 124 yX7_readMacro ∈ wsL_law := rin_10 _ (List.mem_of_getElem? (i := 3) rfl)
theorem q_10_4 : Cond.instanceMethod yX7_readMacro ∈ wsL_law := rin_10 _ (List.mem_of_getElem? (i := 4) rfl)
theorem q_10_5 : Cond.selects RX7 yX7_readMacro yX7_readMacro ∈ wsL_law := rin_10 _ (List.mem_of_getElem? (i := 5) rfl)
theorem q_10_6 : Cond.code yX7_readMacro cX7_readMacro 4 (some .boolean) ∈ wsL_law := rin_10 _ (List.mem_of_getElem? (i := 6) rfl)
theorem q_10_7 : Cond.methodLink RX7 127 yX7_keyBy ∈ wsL_law := rin_10 _ (List.mem_of_getElem? (i := 7) rfl)
theorem q_10_8 : Cond.static yX7_keyBy ∈ wsL_law := rin_10 _ (List.mem_of_getElem? (i := 8) rfl)
theorem q_10_9 : Cond.code yX7_keyBy cX7_keyBy 2 (some .int) ∈ wsL_law := rin_10 _ (List.mem_of_getElem? (i := 9) rfl)
theorem q_10_10 : Cond.methodLink RL 18 yX6_ofMacro ∈ wsL_law := rin_10 _ (List.mem_of_getElem? (i := 10) rfl)
theorem q_10_11 : Cond.instanceMethod yX6_ofMacro ∈ wsL_law := rin_10 _ (List.mem_of_getElem? (i := 11) rfl)
theorem q_10_12 : Cond.selects RX6 yX6_ofMacro yX6_ofMacro ∈ wsL_law := rin_10 _ (List.mem_of_getElem? (i := 12) rfl)
theorem q_10_13 : Cond.code yX6_ofMacro cX6_ofMacro 4 (some .int) ∈ wsL_law := rin_10 _ (List.mem_of_getElem? (i := 13) rfl)
theorem q_10_14 : Cond.fieldLink RX6 92 "MacroKeys$Macro" "kind" "I" ∈ wsL_law := rin_10 _ (List.mem_of_getElem? (i := 14) rfl)
theorem q_10_15 : Cond.fieldLink RX6 97 "MacroKeys$Macro" "timing" "I" ∈ wsL_law := rin_10 _ (List.mem_of_getElem? (i := 15) rfl)
theorem q_10_16 : Cond.fieldLink RX6 104 "MacroKeys$Macro" "count" "I" ∈ wsL_law := rin_10 _ (List.mem_of_getElem? (i := 16) rfl)
theorem q_10_17 : Cond.methodLink RX6 88 yX0_macroOf ∈ wsL_law := rin_10 _ (List.mem_of_getElem? (i := 17) rfl)
theorem q_10_18 : Cond.instanceMethod yX0_macroOf ∈ wsL_law := rin_10 _ (List.mem_of_getElem? (i := 18) rfl)
theorem q_10_19 : Cond.selects RX0 yX0_macroOf yX0_macroOf ∈ wsL_law := rin_10 _ (List.mem_of_getElem? (i := 19) rfl)
theorem q_10_20 : Cond.code yX0_macroOf cX0_macroOf 2 (some (.object "MacroKeys$Macro")) ∈ wsL_law := rin_10 _ (List.mem_of_getElem? (i := 20) rfl)
theorem q_10_21 : Cond.methodLink RX6 100 yX2_often ∈ wsL_law := rin_10 _ (List.mem_of_getElem? (i := 21) rfl)
theorem q_10_22 : Cond.instanceMethod yX2_often ∈ wsL_law := rin_10 _ (List.mem_of_getElem? (i := 22) rfl)
theorem q_10_23 : Cond.selects RX2 yX2_often yX2_often ∈ wsL_law := rin_10 _ (List.mem_of_getElem? (i := 23) rfl)
theorem q_11_0 : Cond.code yX2_often cX2_often 1 (some .int) ∈ wsL_law := rin_11 _ (List.mem_of_getElem? (i := 0) rfl)
theorem q_11_1 : Cond.instanceMethod yX0_pressesOf ∈ wsL_law := rin_11 _ (List.mem_of_getElem? (i := 1) rfl)
theorem q_11_2 : Cond.selects RX0 yX0_pressesOf yX0_pressesOf ∈ wsL_law := rin_11 _ (List.mem_of_getElem? (i := 2) rfl)
theorem q_11_3 : Cond.code yX0_pressesOf cX0_pressesOf 6 (some .int) ∈ wsL_law := rin_11 _ (List.mem_of_getElem? (i := 3) rfl)
theorem q_11_4 : Cond.fieldLink RX0 60 "MacroKeys$Macro" "count" "I" ∈ wsL_law := rin_11 _ (List.mem_of_getElem? (i := 4) rfl)
theorem q_11_5 : Cond.methodLink RX0 44 yX0_macroOf ∈ wsL_law := rin_11 _ (List.mem_of_getElem? (i := 5) rfl)
theorem q_11_6 : Cond.methodLink RX0 63 yX2_keyAt ∈ wsL_law := rin_11 _ (List.mem_of_getElem? (i := 6) rfl)
theorem q_11_7 : Cond.instanceMethod yX2_keyAt ∈ wsL_law := rin_11 _ (List.mem_of_getElem? (i := 7) rfl)
theorem q_11_8 : Cond.selects RX2 yX2_keyAt yX2_keyAt ∈ wsL_law := rin_11 _ (List.mem_of_getElem? (i := 8) rfl)
theorem q_11_9 : Cond.code yX2_keyAt cX2_keyAt 2 (some .int) ∈ wsL_law := rin_11 _ (List.mem_of_getElem? (i := 9) rfl)
theorem q_11_10 : Cond.methodLink RX0 67 yX0_pressesOf ∈ wsL_law := rin_11 _ (List.mem_of_getElem? (i := 10) rfl)
theorem q_11_11 : Cond.methodLink RX0 70 yX2_often ∈ wsL_law := rin_11 _ (List.mem_of_getElem? (i := 11) rfl)
theorem q_11_12 : Cond.methodLink RL 22 yX7_ofMacro ∈ wsL_law := rin_11 _ (List.mem_of_getElem? (i := 12) rfl)
theorem q_11_13 : Cond.instanceMethod yX7_ofMacro ∈ wsL_law := rin_11 _ (List.mem_of_getElem? (i := 13) rfl)
theorem q_11_14 : Cond.selects RX7 yX7_ofMacro yX7_ofMacro ∈ wsL_law := rin_11 _ (List.mem_of_getElem? (i := 14) rfl)
theorem q_11_15 : Cond.code yX7_ofMacro cX7_ofMacro 3 (some .int) ∈ wsL_law := rin_11 _ (List.mem_of_getElem? (i := 15) rfl)
theorem q_11_16 : Cond.methodLink RX7 134 yX7_isMacro ∈ wsL_law := rin_11 _ (List.mem_of_getElem? (i := 16) rfl)
theorem q_11_17 : Cond.instanceMethod yX7_isMacro ∈ wsL_law := rin_11 _ (List.mem_of_getElem? (i := 17) rfl)
theorem q_11_18 : Cond.selects RX7 yX7_isMacro yX7_isMacro ∈ wsL_law := rin_11 _ (List.mem_of_getElem? (i := 18) rfl)
theorem q_11_19 : Cond.code yX7_isMacro cX7_isMacro 2 (some .boolean) ∈ wsL_law := rin_11 _ (List.mem_of_getElem? (i := 19) rfl)
theorem q_11_20 : Cond.methodLink RX7 131 yX7_oftenOf ∈ wsL_law := rin_11 _ (List.mem_of_getElem? (i := 20) rfl)
theorem q_11_21 : Cond.instanceMethod yX7_oftenOf ∈ wsL_law := rin_11 _ (List.mem_of_getElem? (i := 21) rfl)
theorem q_11_22 : Cond.selects RX7 yX7_oftenOf yX7_oftenOf ∈ wsL_law := rin_11 _ (List.mem_of_getElem? (i := 22) rfl)
theorem q_11_23 : Cond.code yX7_oftenOf cX7_oftenOf 2 (some .int) ∈ wsL_law := rin_11 _ (List.mem_of_getElem? (i := 23) rfl)
theorem q_12_0 : Cond.methodLink RX7 137 yX7_findPresses ∈ wsL_law := rin_12 _ (List.mem_of_getElem? (i := 0) rfl)
theorem q_12_1 : Cond.instanceMethod yX7_findPresses ∈ wsL_law := rin_12 _ (List.mem_of_getElem? (i := 1) rfl)
theorem q_12_2 : Cond.selects RX7 yX7_findPresses yX7_findPresses ∈ wsL_law := rin_12 _ (List.mem_of_getElem? (i := 2) rfl)
theorem q_12_3 : Cond.code yX7_findPresses cX7_findPresses 5 none ∈ wsL_law := rin_12 _ (List.mem_of_getElem? (i := 3) rfl)
theorem q_12_4 : Cond.methodLink RL 23 yX6_key ∈ wsL_law := rin_12 _ (List.mem_of_getElem? (i := 4) rfl)
theorem q_12_5 : Cond.instanceMethod yX6_key ∈ wsL_law := rin_12 _ (List.mem_of_getElem? (i := 5) rfl)
theorem q_12_6 : Cond.selects RX6 yX6_key yX6_key ∈ wsL_law := rin_12 _ (List.mem_of_getElem? (i := 6) rfl)
theorem q_12_7 : Cond.code yX6_key cX6_key 5 (some .int) ∈ wsL_law := rin_12 _ (List.mem_of_getElem? (i := 7) rfl)
theorem q_12_8 : Cond.methodLink RX6 110 yX2_keyAt ∈ wsL_law := rin_12 _ (List.mem_of_getElem? (i := 8) rfl)
theorem q_12_9 : Cond.methodLink RL 26 yX7_key ∈ wsL_law := rin_12 _ (List.mem_of_getElem? (i := 9) rfl)
theorem q_12_10 : Cond.instanceMethod yX7_key ∈ wsL_law := rin_12 _ (List.mem_of_getElem? (i := 10) rfl)
theorem q_12_11 : Cond.selects RX7 yX7_key yX7_key ∈ wsL_law := rin_12 _ (List.mem_of_getElem? (i := 11) rfl)
theorem q_12_12 : Cond.code yX7_key cX7_key 3 (some .int) ∈ wsL_law := rin_12 _ (List.mem_of_getElem? (i := 12) rfl)
theorem q_12_13 : Cond.methodLink RL 27 yX6_times ∈ wsL_law := rin_12 _ (List.mem_of_getElem? (i := 13) rfl)
theorem q_12_14 : Cond.instanceMethod yX6_times ∈ wsL_law := rin_12 _ (List.mem_of_getElem? (i := 14) rfl)
theorem q_12_15 : Cond.selects RX6 yX6_times yX6_times ∈ wsL_law := rin_12 _ (List.mem_of_getElem? (i := 15) rfl)
theorem q_12_16 : Cond.code yX6_times cX6_times 5 (some .int) ∈ wsL_law := rin_12 _ (List.mem_of_getElem? (i := 16) rfl)
theorem q_12_17 : Cond.methodLink RX6 113 yX0_change ∈ wsL_law := rin_12 _ (List.mem_of_getElem? (i := 17) rfl)
theorem q_12_18 : Cond.instanceMethod yX0_change ∈ wsL_law := rin_12 _ (List.mem_of_getElem? (i := 18) rfl)
theorem q_12_19 : Cond.selects RX0 yX0_change yX0_change ∈ wsL_law := rin_12 _ (List.mem_of_getElem? (i := 19) rfl)
theorem q_12_20 : Cond.code yX0_change cX0_change 5 none ∈ wsL_law := rin_12 _ (List.mem_of_getElem? (i := 20) rfl)
theorem q_12_21 : Cond.fieldLink RX0 48 "MacroKeys$Macro" "kind" "I" ∈ wsL_law := rin_12 _ (List.mem_of_getElem? (i := 21) rfl)
theorem q_12_22 : Cond.fieldLink RX0 51 "MacroKeys$Macro" "timing" "I" ∈ wsL_law := rin_12 _ (List.mem_of_getElem? (i := 22) rfl)
theorem q_12_23 : Cond.methodLink RL 30 yX7_times ∈ wsL_law := rin_12 _ (List.mem_of_getElem? (i := 23) rfl)
theorem q_13_0 : Cond.instanceMethod yX7_times ∈ wsL_law := rin_13 _ (List.mem_of_getElem? (i := 0) rfl)
theorem q_13_1 : Cond.selects RX7 yX7_times yX7_times ∈ wsL_law := rin_13 _ (List.mem_of_getElem? (i := 1) rfl)
theorem q_13_2 : Cond.code yX7_times cX7_times 4 (some .int) ∈ wsL_law := rin_13 _ (List.mem_of_getElem? (i := 2) rfl)
theorem q_13_3 : Cond.methodLink RL 31 yX6_press ∈ wsL_law := rin_13 _ (List.mem_of_getElem? (i := 3) rfl)
theorem q_13_4 : Cond.instanceMethod yX6_press ∈ wsL_law := rin_13 _ (List.mem_of_getElem? (i := 4) rfl)
theorem q_13_5 : Cond.selects RX6 yX6_press yX6_press ∈ wsL_law := rin_13 _ (List.mem_of_getElem? (i := 5) rfl)
theorem q_13_6 : Cond.code yX6_press cX6_press 3 (some .int) ∈ wsL_law := rin_13 _ (List.mem_of_getElem? (i := 6) rfl)
theorem q_13_7 : Cond.methodLink RX6 117 yX1_after ∈ wsL_law := rin_13 _ (List.mem_of_getElem? (i := 7) rfl)
theorem q_13_8 : Cond.static yX1_after ∈ wsL_law := rin_13 _ (List.mem_of_getElem? (i := 8) rfl)
theorem q_13_9 : Cond.initialized RX1 ∈ wsL_law := rin_13 _ (List.mem_of_getElem? (i := 9) rfl)
theorem q_13_10 : Cond.code yX1_after cX1_after 6 (some .int) ∈ wsL_law := rin_13 _ (List.mem_of_getElem? (i := 10) rfl)
theorem q_13_11 : Cond.fieldLink RX1 11 "MacroKeys$Line" "FIRST" "[I" ∈ wsL_law := rin_13 _ (List.mem_of_getElem? (i := 11) rfl)
theorem q_13_12 : Cond.methodLink RX1 15 yX1_countOf ∈ wsL_law := rin_13 _ (List.mem_of_getElem? (i := 12) rfl)
theorem q_13_13 : Cond.static yX1_countOf ∈ wsL_law := rin_13 _ (List.mem_of_getElem? (i := 13) rfl)
theorem q_13_14 : Cond.code yX1_countOf cX1_countOf 2 (some .int) ∈ wsL_law := rin_13 _ (List.mem_of_getElem? (i := 14) rfl)
theorem q_13_15 : Cond.methodLink RX1 23 yX1_of ∈ wsL_law := rin_13 _ (List.mem_of_getElem? (i := 15) rfl)
theorem q_13_16 : Cond.static yX1_of ∈ wsL_law := rin_13 _ (List.mem_of_getElem? (i := 16) rfl)
theorem q_13_17 : Cond.code yX1_of cX1_of 3 (some .int) ∈ wsL_law := rin_13 _ (List.mem_of_getElem? (i := 17) rfl)
theorem q_13_18 : Cond.methodLink RX1 27 yX1_without ∈ wsL_law := rin_13 _ (List.mem_of_getElem? (i := 18) rfl)
theorem q_13_19 : Cond.static yX1_without ∈ wsL_law := rin_13 _ (List.mem_of_getElem? (i := 19) rfl)
theorem q_13_20 : Cond.code yX1_without cX1_without 3 (some .int) ∈ wsL_law := rin_13 _ (List.mem_of_getElem? (i := 20) rfl)
theorem q_13_21 : Cond.methodLink RX1 30 yX1_with ∈ wsL_law := rin_13 _ (List.mem_of_getElem? (i := 21) rfl)
theorem q_13_22 : Cond.static yX1_with ∈ wsL_law := rin_13 _ (List.mem_of_getElem? (i := 22) rfl)
theorem q_13_23 : Cond.code yX1_with cX1_with 4 (some .int) ∈ wsL_law := rin_13 _ (List.mem_of_getElem? (i := 23) rfl)
theorem q_14_0 : Cond.methodLink RL 35 yX7_press ∈ wsL_law := rin_14 _ (List.mem_of_getElem? (i := 0) rfl)
theorem q_14_1 : Cond.instanceMethod yX7_press ∈ wsL_law := rin_14 _ (List.mem_of_getElem? (i := 1) rfl)
theorem q_14_2 : Cond.selects RX7 yX7_press yX7_press ∈ wsL_law := rin_14 _ (List.mem_of_getElem? (i := 2) rfl)
theorem q_14_3 : Cond.code yX7_press cX7_press 3 (some .int) ∈ wsL_law := rin_14 _ (List.mem_of_getElem? (i := 3) rfl)
theorem q_14_4 : Cond.methodLink RX7 165 yX7_workOn ∈ wsL_law := rin_14 _ (List.mem_of_getElem? (i := 4) rfl)
theorem q_14_5 : Cond.instanceMethod yX7_workOn ∈ wsL_law := rin_14 _ (List.mem_of_getElem? (i := 5) rfl)
theorem q_14_6 : Cond.selects RX7 yX7_workOn yX7_workOn ∈ wsL_law := rin_14 _ (List.mem_of_getElem? (i := 6) rfl)
theorem q_14_7 : Cond.code yX7_workOn cX7_workOn 4 none ∈ wsL_law := rin_14 _ (List.mem_of_getElem? (i := 7) rfl)
theorem q_14_8 : Cond.fieldLink RX7 140 "MacroKeysModel" "many" "I" ∈ wsL_law := rin_14 _ (List.mem_of_getElem? (i := 8) rfl)
theorem q_14_9 : Cond.fieldLink RX7 146 "MacroKeysModel" "cursor" "I" ∈ wsL_law := rin_14 _ (List.mem_of_getElem? (i := 9) rfl)
theorem q_14_10 : Cond.methodLink RX7 143 yX7_linesBelow ∈ wsL_law := rin_14 _ (List.mem_of_getElem? (i := 10) rfl)
theorem q_14_11 : Cond.static yX7_linesBelow ∈ wsL_law := rin_14 _ (List.mem_of_getElem? (i := 11) rfl)
theorem q_14_12 : Cond.code yX7_linesBelow cX7_linesBelow 4 (some .int) ∈ wsL_law := rin_14 _ (List.mem_of_getElem? (i := 12) rfl)
theorem q_14_13 : Cond.methodLink RX7 162 yX7_presses ∈ wsL_law := rin_14 _ (List.mem_of_getElem? (i := 13) rfl)
theorem q_14_14 : Cond.instanceMethod yX7_presses ∈ wsL_law := rin_14 _ (List.mem_of_getElem? (i := 14) rfl)
theorem q_14_15 : Cond.selects RX7 yX7_presses yX7_presses ∈ wsL_law := rin_14 _ (List.mem_of_getElem? (i := 15) rfl)
theorem q_14_16 : Cond.code yX7_presses cX7_presses 3 (some .boolean) ∈ wsL_law := rin_14 _ (List.mem_of_getElem? (i := 16) rfl)
theorem q_14_17 : Cond.fieldLink RX7 159 "MacroKeysModel" "bumps" "I" ∈ wsL_law := rin_14 _ (List.mem_of_getElem? (i := 17) rfl)
theorem q_14_18 : Cond.methodLink RX7 156 yX7_does ∈ wsL_law := rin_14 _ (List.mem_of_getElem? (i := 18) rfl)
theorem q_14_19 : Cond.instanceMethod yX7_does ∈ wsL_law := rin_14 _ (List.mem_of_getElem? (i := 19) rfl)
theorem q_14_20 : Cond.selects RX7 yX7_does yX7_does ∈ wsL_law := rin_14 _ (List.mem_of_getElem? (i := 20) rfl)
theorem q_14_21 : Cond.code yX7_does cX7_does 3 (some .boolean) ∈ wsL_law := rin_14 _ (List.mem_of_getElem? (i := 21) rfl)
theorem q_14_22 : Cond.methodLink RX7 149 yX7_types ∈ wsL_law := rin_14 _ (List.mem_of_getElem? (i := 22) rfl)
theorem q_14_23 : Cond.instanceMethod yX7_types ∈ wsL_law := rin_14 _ (List.mem_of_getElem? (i := 23) rfl)
theorem q_15_0 : Cond.selects RX7 yX7_types yX7_types ∈ wsL_law := rin_15 _ (List.mem_of_getElem? (i := 0) rfl)
theorem q_15_1 : Cond.code yX7_types cX7_types 3 (some .boolean) ∈ wsL_law := rin_15 _ (List.mem_of_getElem? (i := 1) rfl)
theorem q_15_2 : Cond.methodLink RX7 152 yX7_takes ∈ wsL_law := rin_15 _ (List.mem_of_getElem? (i := 2) rfl)
theorem q_15_3 : Cond.instanceMethod yX7_takes ∈ wsL_law := rin_15 _ (List.mem_of_getElem? (i := 3) rfl)
theorem q_15_4 : Cond.selects RX7 yX7_takes yX7_takes ∈ wsL_law := rin_15 _ (List.mem_of_getElem? (i := 4) rfl)
theorem q_15_5 : Cond.code yX7_takes cX7_takes 2 (some .boolean) ∈ wsL_law := rin_15 _ (List.mem_of_getElem? (i := 5) rfl)
theorem q_15_6 : Cond.methodLink RX7 169 yX7_lineNumber ∈ wsL_law := rin_15 _ (List.mem_of_getElem? (i := 6) rfl)
theorem q_15_7 : Cond.instanceMethod yX7_lineNumber ∈ wsL_law := rin_15 _ (List.mem_of_getElem? (i := 7) rfl)
theorem q_15_8 : Cond.selects RX7 yX7_lineNumber yX7_lineNumber ∈ wsL_law := rin_15 _ (List.mem_of_getElem? (i := 8) rfl)
theorem q_15_9 : Cond.code yX7_lineNumber cX7_lineNumber 3 (some .int) ∈ wsL_law := rin_15 _ (List.mem_of_getElem? (i := 9) rfl)
theorem q_15_10 : Cond.methodLink RL 36 yX6_play ∈ wsL_law := rin_15 _ (List.mem_of_getElem? (i := 10) rfl)
theorem q_15_11 : Cond.instanceMethod yX6_play ∈ wsL_law := rin_15 _ (List.mem_of_getElem? (i := 11) rfl)
theorem q_15_12 : Cond.selects RX6 yX6_play yX6_play ∈ wsL_law := rin_15 _ (List.mem_of_getElem? (i := 12) rfl)
theorem q_15_13 : Cond.code yX6_play cX6_play 3 (some .int) ∈ wsL_law := rin_15 _ (List.mem_of_getElem? (i := 13) rfl)
theorem q_15_14 : Cond.instanceMethod yX0_effectOf ∈ wsL_law := rin_15 _ (List.mem_of_getElem? (i := 14) rfl)
theorem q_15_15 : Cond.selects RX0 yX0_effectOf yX0_effectOf ∈ wsL_law := rin_15 _ (List.mem_of_getElem? (i := 15) rfl)
theorem q_15_16 : Cond.code yX0_effectOf cX0_effectOf 6 (some .int) ∈ wsL_law := rin_15 _ (List.mem_of_getElem? (i := 16) rfl)
theorem q_15_17 : Cond.methodLink RX0 80 yX1_after ∈ wsL_law := rin_15 _ (List.mem_of_getElem? (i := 17) rfl)
theorem q_15_18 : Cond.methodLink RX0 83 yX1_isLine ∈ wsL_law := rin_15 _ (List.mem_of_getElem? (i := 18) rfl)
theorem q_15_19 : Cond.static yX1_isLine ∈ wsL_law := rin_15 _ (List.mem_of_getElem? (i := 19) rfl)
theorem q_15_20 : Cond.code yX1_isLine cX1_isLine 1 (some .boolean) ∈ wsL_law := rin_15 _ (List.mem_of_getElem? (i := 20) rfl)
theorem q_15_21 : Cond.methodLink RX0 87 yX0_played ∈ wsL_law := rin_15 _ (List.mem_of_getElem? (i := 21) rfl)
theorem q_15_22 : Cond.instanceMethod yX0_played ∈ wsL_law := rin_15 _ (List.mem_of_getElem? (i := 22) rfl)
theorem q_15_23 : Cond.selects RX0 yX0_played yX0_played ∈ wsL_law := rin_15 _ (List.mem_of_getElem? (i := 23) rfl)
theorem q_16_0 : Cond.code yX0_played cX0_played 11 (some .int) ∈ wsL_law := rin_16 _ (List.mem_of_getElem? (i := 0) rfl)
theorem q_16_1 : Cond.methodLink RX0 73 yX0_effectOf ∈ wsL_law := rin_16 _ (List.mem_of_getElem? (i := 1) rfl)
theorem q_16_2 : Cond.methodLink RX0 91 yX0_bumpsOf ∈ wsL_law := rin_16 _ (List.mem_of_getElem? (i := 2) rfl)
theorem q_16_3 : Cond.static yX0_bumpsOf ∈ wsL_law := rin_16 _ (List.mem_of_getElem? (i := 3) rfl)
theorem q_16_4 : Cond.code yX0_bumpsOf cX0_bumpsOf 1 (some .int) ∈ wsL_law := rin_16 _ (List.mem_of_getElem? (i := 4) rfl)
theorem q_16_5 : Cond.methodLink RX0 77 yX0_lineOf ∈ wsL_law := rin_16 _ (List.mem_of_getElem? (i := 5) rfl)
theorem q_16_6 : Cond.static yX0_lineOf ∈ wsL_law := rin_16 _ (List.mem_of_getElem? (i := 6) rfl)
theorem q_16_7 : Cond.code yX0_lineOf cX0_lineOf 1 (some .int) ∈ wsL_law := rin_16 _ (List.mem_of_getElem? (i := 7) rfl)
theorem q_16_8 : Cond.methodLink RX6 124 yX0_lineOf ∈ wsL_law := rin_16 _ (List.mem_of_getElem? (i := 8) rfl)
theorem q_16_9 : Cond.methodLink RX6 127 yX0_bumpsOf ∈ wsL_law := rin_16 _ (List.mem_of_getElem? (i := 9) rfl)
theorem q_16_10 : Cond.methodLink RL 39 yX7_play ∈ wsL_law := rin_16 _ (List.mem_of_getElem? (i := 10) rfl)
theorem q_16_11 : Cond.instanceMethod yX7_play ∈ wsL_law := rin_16 _ (List.mem_of_getElem? (i := 11) rfl)
theorem q_16_12 : Cond.selects RX7 yX7_play yX7_play ∈ wsL_law := rin_16 _ (List.mem_of_getElem? (i := 12) rfl)
theorem q_16_13 : Cond.code yX7_play cX7_play 2 (some .int) ∈ wsL_law := rin_16 _ (List.mem_of_getElem? (i := 13) rfl)
theorem q_16_14 : Cond.methodLink RX7 173 yX7_plays ∈ wsL_law := rin_16 _ (List.mem_of_getElem? (i := 14) rfl)
theorem q_16_15 : Cond.instanceMethod yX7_plays ∈ wsL_law := rin_16 _ (List.mem_of_getElem? (i := 15) rfl)
theorem q_16_16 : Cond.selects RX7 yX7_plays yX7_plays ∈ wsL_law := rin_16 _ (List.mem_of_getElem? (i := 16) rfl)
theorem q_16_17 : Cond.code yX7_plays cX7_plays 5 none ∈ wsL_law := rin_16 _ (List.mem_of_getElem? (i := 17) rfl)
theorem q_16_18 : Cond.methodLink RL 40 yX6_letter ∈ wsL_law := rin_16 _ (List.mem_of_getElem? (i := 18) rfl)
theorem q_16_19 : Cond.instanceMethod yX6_letter ∈ wsL_law := rin_16 _ (List.mem_of_getElem? (i := 19) rfl)
theorem q_16_20 : Cond.selects RX6 yX6_letter yX6_letter ∈ wsL_law := rin_16 _ (List.mem_of_getElem? (i := 20) rfl)
theorem q_16_21 : Cond.code yX6_letter cX6_letter 2 (some .int) ∈ wsL_law := rin_16 _ (List.mem_of_getElem? (i := 21) rfl)
theorem q_16_22 : Cond.methodLink RX6 130 yX1_countOf ∈ wsL_law := rin_16 _ (List.mem_of_getElem? (i := 22) rfl)
theorem q_16_23 : Cond.methodLink RX6 133 yX1_letterAt ∈ wsL_law := rin_16 _ (List.mem_of_getElem? (i := 23) rfl)
theorem q_17_0 : Cond.static yX1_letterAt ∈ wsL_law := rin_17 _ (List.mem_of_getElem? (i := 0) rfl)
theorem q_17_1 : Cond.code yX1_letterAt cX1_letterAt 3 (some .int) ∈ wsL_law := rin_17 _ (List.mem_of_getElem? (i := 1) rfl)
theorem q_17_2 : Cond.methodLink RL 43 yX7_letter ∈ wsL_law := rin_17 _ (List.mem_of_getElem? (i := 2) rfl)
theorem q_17_3 : Cond.instanceMethod yX7_letter ∈ wsL_law := rin_17 _ (List.mem_of_getElem? (i := 3) rfl)
theorem q_17_4 : Cond.selects RX7 yX7_letter yX7_letter ∈ wsL_law := rin_17 _ (List.mem_of_getElem? (i := 4) rfl)
theorem q_17_5 : Cond.code yX7_letter cX7_letter 2 (some .int) ∈ wsL_law := rin_17 _ (List.mem_of_getElem? (i := 5) rfl)
theorem q_17_6 : Cond.methodLink RL 44 yX6_clear ∈ wsL_law := rin_17 _ (List.mem_of_getElem? (i := 6) rfl)
theorem q_17_7 : Cond.instanceMethod yX6_clear ∈ wsL_law := rin_17 _ (List.mem_of_getElem? (i := 7) rfl)
theorem q_17_8 : Cond.selects RX6 yX6_clear yX6_clear ∈ wsL_law := rin_17 _ (List.mem_of_getElem? (i := 8) rfl)
theorem q_17_9 : Cond.code yX6_clear cX6_clear 2 (some .int) ∈ wsL_law := rin_17 _ (List.mem_of_getElem? (i := 9) rfl)
theorem q_17_10 : Cond.methodLink RL 48 yX7_clear ∈ wsL_law := rin_17 _ (List.mem_of_getElem? (i := 10) rfl)
theorem q_17_11 : Cond.instanceMethod yX7_clear ∈ wsL_law := rin_17 _ (List.mem_of_getElem? (i := 11) rfl)
theorem q_17_12 : Cond.selects RX7 yX7_clear yX7_clear ∈ wsL_law := rin_17 _ (List.mem_of_getElem? (i := 12) rfl)
theorem q_17_13 : Cond.code yX7_clear cX7_clear 1 (some .int) ∈ wsL_law := rin_17 _ (List.mem_of_getElem? (i := 13) rfl)
theorem q_17_14 : Cond.methodLink RL 49 yX6_row ∈ wsL_law := rin_17 _ (List.mem_of_getElem? (i := 14) rfl)
theorem q_17_15 : Cond.instanceMethod yX6_row ∈ wsL_law := rin_17 _ (List.mem_of_getElem? (i := 15) rfl)
theorem q_17_16 : Cond.selects RX6 yX6_row yX6_row ∈ wsL_law := rin_17 _ (List.mem_of_getElem? (i := 16) rfl)
theorem q_17_17 : Cond.code yX6_row cX6_row 8 (some .int) ∈ wsL_law := rin_17 _ (List.mem_of_getElem? (i := 17) rfl)
theorem q_17_18 : Cond.methodLink RX6 136 yX6_isOfRow ∈ wsL_law := rin_17 _ (List.mem_of_getElem? (i := 18) rfl)
theorem q_17_19 : Cond.static yX6_isOfRow ∈ wsL_law := rin_17 _ (List.mem_of_getElem? (i := 19) rfl)
theorem q_17_20 : Cond.code yX6_isOfRow cX6_isOfRow 1 (some .boolean) ∈ wsL_law := rin_17 _ (List.mem_of_getElem? (i := 20) rfl)
theorem q_17_21 : Cond.methodLink RX6 139 yX5_allWithin ∈ wsL_law := rin_17 _ (List.mem_of_getElem? (i := 21) rfl)
theorem q_17_22 : Cond.instanceMethod yX5_allWithin ∈ wsL_law := rin_17 _ (List.mem_of_getElem? (i := 22) rfl)
theorem q_17_23 : Cond.selects RX5 yX5_allWithin yX5_allWithin ∈ wsL_law := rin_17 _ (List.mem_of_getElem? (i := 23) rfl)
theorem q_18_0 : Cond.code yX5_allWithin cX5_allWithin 6 (some .boolean) ∈ wsL_law := rin_18 _ (List.mem_of_getElem? (i := 0) rfl)
theorem q_18_1 : Cond.methodLink RX6 143 yX0_keysThereAre ∈ wsL_law := rin_18 _ (List.mem_of_getElem? (i := 1) rfl)
theorem q_18_2 : Cond.instanceMethod yX0_keysThereAre ∈ wsL_law := rin_18 _ (List.mem_of_getElem? (i := 2) rfl)
theorem q_18_3 : Cond.selects RX0 yX0_keysThereAre yX0_keysThereAre ∈ wsL_law := rin_18 _ (List.mem_of_getElem? (i := 3) rfl)
theorem q_18_4 : Cond.code yX0_keysThereAre cX0_keysThereAre 1 (some .int) ∈ wsL_law := rin_18 _ (List.mem_of_getElem? (i := 4) rfl)
theorem q_18_5 : Cond.methodLink RX6 146 yX6_ofRow ∈ wsL_law := rin_18 _ (List.mem_of_getElem? (i := 5) rfl)
theorem q_18_6 : Cond.instanceMethod yX6_ofRow ∈ wsL_law := rin_18 _ (List.mem_of_getElem? (i := 6) rfl)
theorem q_18_7 : Cond.selects RX6 yX6_ofRow yX6_ofRow ∈ wsL_law := rin_18 _ (List.mem_of_getElem? (i := 7) rfl)
theorem q_18_8 : Cond.code yX6_ofRow cX6_ofRow 12 (some .int) ∈ wsL_law := rin_18 _ (List.mem_of_getElem? (i := 8) rfl)
theorem q_18_9 : Cond.fieldLink RX6 150 "MacroKeys$Sheet" "cells" "[I" ∈ wsL_law := rin_18 _ (List.mem_of_getElem? (i := 9) rfl)
theorem q_18_10 : Cond.methodLink RX6 153 yX1_cursorOf ∈ wsL_law := rin_18 _ (List.mem_of_getElem? (i := 10) rfl)
theorem q_18_11 : Cond.static yX1_cursorOf ∈ wsL_law := rin_18 _ (List.mem_of_getElem? (i := 11) rfl)
theorem q_18_12 : Cond.code yX1_cursorOf cX1_cursorOf 2 (some .int) ∈ wsL_law := rin_18 _ (List.mem_of_getElem? (i := 12) rfl)
theorem q_18_13 : Cond.methodLink RX6 156 yX1_digitsOf ∈ wsL_law := rin_18 _ (List.mem_of_getElem? (i := 13) rfl)
theorem q_18_14 : Cond.static yX1_digitsOf ∈ wsL_law := rin_18 _ (List.mem_of_getElem? (i := 14) rfl)
theorem q_18_15 : Cond.code yX1_digitsOf cX1_digitsOf 4 (some .int) ∈ wsL_law := rin_18 _ (List.mem_of_getElem? (i := 15) rfl)
theorem q_18_16 : Cond.methodLink RX1 19 yX1_letterAt ∈ wsL_law := rin_18 _ (List.mem_of_getElem? (i := 16) rfl)
theorem q_18_17 : Cond.methodLink RL 53 yX7_row ∈ wsL_law := rin_18 _ (List.mem_of_getElem? (i := 17) rfl)
theorem q_18_18 : Cond.instanceMethod yX7_row ∈ wsL_law := rin_18 _ (List.mem_of_getElem? (i := 18) rfl)
theorem q_18_19 : Cond.selects RX7 yX7_row yX7_row ∈ wsL_law := rin_18 _ (List.mem_of_getElem? (i := 19) rfl)
theorem q_18_20 : Cond.code yX7_row cX7_row 10 (some .int) ∈ wsL_law := rin_18 _ (List.mem_of_getElem? (i := 20) rfl)
theorem q_18_21 : Cond.methodLink RX7 179 yX7_goRow ∈ wsL_law := rin_18 _ (List.mem_of_getElem? (i := 21) rfl)
theorem q_18_22 : Cond.instanceMethod yX7_goRow ∈ wsL_law := rin_18 _ (List.mem_of_getElem? (i := 22) rfl)
theorem q_18_23 : Cond.selects RX7 yX7_goRow yX7_goRow ∈ wsL_law := rin_18 _ (List.mem_of_getElem? (i := 23) rfl)
theorem q_19_0 : Cond.code yX7_goRow cX7_goRow 5 none ∈ wsL_law := rin_19 _ (List.mem_of_getElem? (i := 0) rfl)
theorem q_19_1 : Cond.fieldLink RX7 176 "MacroKeysModel" "firstBump" "I" ∈ wsL_law := rin_19 _ (List.mem_of_getElem? (i := 1) rfl)
theorem q_19_2 : Cond.methodLink RX7 183 yX7_tellRow ∈ wsL_law := rin_19 _ (List.mem_of_getElem? (i := 2) rfl)
theorem q_19_3 : Cond.instanceMethod yX7_tellRow ∈ wsL_law := rin_19 _ (List.mem_of_getElem? (i := 3) rfl)
theorem q_19_4 : Cond.selects RX7 yX7_tellRow yX7_tellRow ∈ wsL_law := rin_19 _ (List.mem_of_getElem? (i := 4) rfl)
theorem q_19_5 : Cond.code yX7_tellRow cX7_tellRow 4 (some .int) ∈ wsL_law := rin_19 _ (List.mem_of_getElem? (i := 5) rfl)
theorem q_19_6 : Cond.methodLink RL 54 yX6_fewest ∈ wsL_law := rin_19 _ (List.mem_of_getElem? (i := 6) rfl)
theorem q_19_7 : Cond.instanceMethod yX6_fewest ∈ wsL_law := rin_19 _ (List.mem_of_getElem? (i := 7) rfl)
theorem q_19_8 : Cond.selects RX6 yX6_fewest yX6_fewest ∈ wsL_law := rin_19 _ (List.mem_of_getElem? (i := 8) rfl)
theorem q_19_9 : Cond.code yX6_fewest cX6_fewest 9 (some .int) ∈ wsL_law := rin_19 _ (List.mem_of_getElem? (i := 9) rfl)
theorem q_19_10 : Cond.methodLink RX6 159 yX6_lineTold ∈ wsL_law := rin_19 _ (List.mem_of_getElem? (i := 10) rfl)
theorem q_19_11 : Cond.static yX6_lineTold ∈ wsL_law := rin_19 _ (List.mem_of_getElem? (i := 11) rfl)
theorem q_19_12 : Cond.code yX6_lineTold cX6_lineTold 5 (some .int) ∈ wsL_law := rin_19 _ (List.mem_of_getElem? (i := 12) rfl)
theorem q_19_13 : Cond.methodLink RX6 172 yX1_of ∈ wsL_law := rin_19 _ (List.mem_of_getElem? (i := 13) rfl)
theorem q_19_14 : Cond.methodLink RX6 162 yX4_find ∈ wsL_law := rin_19 _ (List.mem_of_getElem? (i := 14) rfl)
theorem q_19_15 : Cond.instanceMethod yX4_find ∈ wsL_law := rin_19 _ (List.mem_of_getElem? (i := 15) rfl)
theorem q_19_16 : Cond.selects RX4 yX4_find yX4_find ∈ wsL_law := rin_19 _ (List.mem_of_getElem? (i := 16) rfl)
theorem q_19_17 : Cond.code yX4_find cX4_find 9 (some .int) ∈ wsL_law := rin_19 _ (List.mem_of_getElem? (i := 17) rfl)
theorem q_19_18 : Cond.fieldLink RX4 24 "MacroKeys$Search" "reached" "I" ∈ wsL_law := rin_19 _ (List.mem_of_getElem? (i := 18) rfl)
theorem q_19_19 : Cond.methodLink RX4 28 yJ7_fill_53178 ∈ wsL_law := rin_19 _ (List.mem_of_getElem? (i := 19) rfl)
theorem q_19_20 : Cond.static yJ7_fill_53178 ∈ wsL_law := rin_19 _ (List.mem_of_getElem? (i := 20) rfl)
theorem q_19_21 : Cond.code yJ7_fill_53178 cJ7_fill_53178 4 none ∈ wsL_law := rin_19 _ (List.mem_of_getElem? (i := 21) rfl)
theorem q_19_22 : Cond.methodLink RX4 34 yX4_queueUp ∈ wsL_law := rin_19 _ (List.mem_of_getElem? (i := 22) rfl)
theorem q_19_23 : Cond.instanceMethod yX4_queueUp ∈ wsL_law := rin_19 _ (List.mem_of_getElem? (i := 23) rfl)
theorem q_20_0 : Cond.selects RX4 yX4_queueUp yX4_queueUp ∈ wsL_law := rin_20 _ (List.mem_of_getElem? (i := 0) rfl)
theorem q_20_1 : Cond.code yX4_queueUp cX4_queueUp 3 none ∈ wsL_law := rin_20 _ (List.mem_of_getElem? (i := 1) rfl)
theorem q_20_2 : Cond.methodLink RX4 52 yX1_isLine ∈ wsL_law := rin_20 _ (List.mem_of_getElem? (i := 2) rfl)
theorem q_20_3 : Cond.methodLink RX4 38 yX4_hasLetters ∈ wsL_law := rin_20 _ (List.mem_of_getElem? (i := 3) rfl)
theorem q_20_4 : Cond.static yX4_hasLetters ∈ wsL_law := rin_20 _ (List.mem_of_getElem? (i := 4) rfl)
theorem q_20_5 : Cond.code yX4_hasLetters cX4_hasLetters 2 (some .boolean) ∈ wsL_law := rin_20 _ (List.mem_of_getElem? (i := 5) rfl)
theorem q_20_6 : Cond.methodLink RX4 56 yX1_after ∈ wsL_law := rin_20 _ (List.mem_of_getElem? (i := 6) rfl)
theorem q_20_7 : Cond.methodLink RX4 42 yX0_keysThereAre ∈ wsL_law := rin_20 _ (List.mem_of_getElem? (i := 7) rfl)
theorem q_20_8 : Cond.methodLink RX4 48 yX0_lineAfter ∈ wsL_law := rin_20 _ (List.mem_of_getElem? (i := 8) rfl)
theorem q_20_9 : Cond.instanceMethod yX0_lineAfter ∈ wsL_law := rin_20 _ (List.mem_of_getElem? (i := 9) rfl)
theorem q_20_10 : Cond.selects RX0 yX0_lineAfter yX0_lineAfter ∈ wsL_law := rin_20 _ (List.mem_of_getElem? (i := 10) rfl)
theorem q_20_11 : Cond.code yX0_lineAfter cX0_lineAfter 3 (some .int) ∈ wsL_law := rin_20 _ (List.mem_of_getElem? (i := 11) rfl)
theorem q_20_12 : Cond.methodLink RX6 166 yX4_stepsTo ∈ wsL_law := rin_20 _ (List.mem_of_getElem? (i := 12) rfl)
theorem q_20_13 : Cond.instanceMethod yX4_stepsTo ∈ wsL_law := rin_20 _ (List.mem_of_getElem? (i := 13) rfl)
theorem q_20_14 : Cond.selects RX4 yX4_stepsTo yX4_stepsTo ∈ wsL_law := rin_20 _ (List.mem_of_getElem? (i := 14) rfl)
theorem q_20_15 : Cond.code yX4_stepsTo cX4_stepsTo 4 (some .int) ∈ wsL_law := rin_20 _ (List.mem_of_getElem? (i := 15) rfl)
theorem q_20_16 : Cond.methodLink RX6 169 yX4_keyTo ∈ wsL_law := rin_20 _ (List.mem_of_getElem? (i := 16) rfl)
theorem q_20_17 : Cond.instanceMethod yX4_keyTo ∈ wsL_law := rin_20 _ (List.mem_of_getElem? (i := 17) rfl)
theorem q_20_18 : Cond.selects RX4 yX4_keyTo yX4_keyTo ∈ wsL_law := rin_20 _ (List.mem_of_getElem? (i := 18) rfl)
theorem q_20_19 : Cond.code yX4_keyTo cX4_keyTo 6 (some .int) ∈ wsL_law := rin_20 _ (List.mem_of_getElem? (i := 19) rfl)
theorem q_20_20 : Cond.methodLink RX4 59 yX4_stepsTo ∈ wsL_law := rin_20 _ (List.mem_of_getElem? (i := 20) rfl)
theorem q_20_21 : Cond.methodLink RL 57 yX7_fewest ∈ wsL_law := rin_20 _ (List.mem_of_getElem? (i := 21) rfl)
theorem q_20_22 : Cond.instanceMethod yX7_fewest ∈ wsL_law := rin_20 _ (List.mem_of_getElem? (i := 22) rfl)
theorem q_20_23 : Cond.selects RX7 yX7_fewest yX7_fewest ∈ wsL_law := rin_20 _ (List.mem_of_getElem? (i := 23) rfl)
theorem q_21_0 : Cond.code yX7_fewest cX7_fewest 11 (some .int) ∈ wsL_law := rin_21 _ (List.mem_of_getElem? (i := 0) rfl)
theorem q_21_1 : Cond.methodLink RX7 198 yX7_findMakes ∈ wsL_law := rin_21 _ (List.mem_of_getElem? (i := 1) rfl)
theorem q_21_2 : Cond.instanceMethod yX7_findMakes ∈ wsL_law := rin_21 _ (List.mem_of_getElem? (i := 2) rfl)
theorem q_21_3 : Cond.selects RX7 yX7_findMakes yX7_findMakes ∈ wsL_law := rin_21 _ (List.mem_of_getElem? (i := 3) rfl)
theorem q_21_4 : Cond.code yX7_findMakes cX7_findMakes 3 none ∈ wsL_law := rin_21 _ (List.mem_of_getElem? (i := 4) rfl)
theorem q_21_5 : Cond.fieldLink RX7 189 "MacroKeysModel" "arePlainFound" "Z" ∈ wsL_law := rin_21 _ (List.mem_of_getElem? (i := 5) rfl)
theorem q_21_6 : Cond.methodLink RX7 192 yX7_madeBy ∈ wsL_law := rin_21 _ (List.mem_of_getElem? (i := 6) rfl)
theorem q_21_7 : Cond.instanceMethod yX7_madeBy ∈ wsL_law := rin_21 _ (List.mem_of_getElem? (i := 7) rfl)
theorem q_21_8 : Cond.selects RX7 yX7_madeBy yX7_madeBy ∈ wsL_law := rin_21 _ (List.mem_of_getElem? (i := 8) rfl)
theorem q_21_9 : Cond.code yX7_madeBy cX7_madeBy 7 (some .int) ∈ wsL_law := rin_21 _ (List.mem_of_getElem? (i := 9) rfl)
theorem q_21_10 : Cond.methodLink RX7 201 yX7_findFar ∈ wsL_law := rin_21 _ (List.mem_of_getElem? (i := 10) rfl)
theorem q_21_11 : Cond.instanceMethod yX7_findFar ∈ wsL_law := rin_21 _ (List.mem_of_getElem? (i := 11) rfl)
theorem q_21_12 : Cond.selects RX7 yX7_findFar yX7_findFar ∈ wsL_law := rin_21 _ (List.mem_of_getElem? (i := 12) rfl)
theorem q_21_13 : Cond.code yX7_findFar cX7_findFar 8 none ∈ wsL_law := rin_21 _ (List.mem_of_getElem? (i := 13) rfl)
theorem q_21_14 : Cond.methodLink RX7 195 yX7_hasTold ∈ wsL_law := rin_21 _ (List.mem_of_getElem? (i := 14) rfl)
theorem q_21_15 : Cond.instanceMethod yX7_hasTold ∈ wsL_law := rin_21 _ (List.mem_of_getElem? (i := 15) rfl)
theorem q_21_16 : Cond.selects RX7 yX7_hasTold yX7_hasTold ∈ wsL_law := rin_21 _ (List.mem_of_getElem? (i := 16) rfl)
theorem q_21_17 : Cond.code yX7_hasTold cX7_hasTold 5 (some .boolean) ∈ wsL_law := rin_21 _ (List.mem_of_getElem? (i := 17) rfl)
theorem q_21_18 : Cond.methodLink RX7 186 yX7_keysThere ∈ wsL_law := rin_21 _ (List.mem_of_getElem? (i := 18) rfl)
theorem q_21_19 : Cond.instanceMethod yX7_keysThere ∈ wsL_law := rin_21 _ (List.mem_of_getElem? (i := 19) rfl)
theorem q_21_20 : Cond.selects RX7 yX7_keysThere yX7_keysThere ∈ wsL_law := rin_21 _ (List.mem_of_getElem? (i := 20) rfl)
theorem q_21_21 : Cond.code yX7_keysThere cX7_keysThere 1 (some .int) ∈ wsL_law := rin_21 _ (List.mem_of_getElem? (i := 21) rfl)
theorem q_21_22 : Cond.methodLink RL 58 yX6_again ∈ wsL_law := rin_21 _ (List.mem_of_getElem? (i := 22) rfl)
theorem q_21_23 : Cond.instanceMethod yX6_again ∈ wsL_law := rin_21 _ (List.mem_of_getElem? (i := 23) rfl)
theorem q_22_0 : Cond.selects RX6 yX6_again yX6_again ∈ wsL_law := rin_22 _ (List.mem_of_getElem? (i := 0) rfl)
theorem q_22_1 : Cond.code yX6_again cX6_again 3 (some .int) ∈ wsL_law := rin_22 _ (List.mem_of_getElem? (i := 1) rfl)
theorem q_22_2 : Cond.methodLink RX6 175 yX4_aheadOfRound ∈ wsL_law := rin_22 _ (List.mem_of_getElem? (i := 2) rfl)
theorem q_22_3 : Cond.instanceMethod yX4_aheadOfRound ∈ wsL_law := rin_22 _ (List.mem_of_getElem? (i := 3) rfl)
theorem q_22_4 : Cond.selects RX4 yX4_aheadOfRound yX4_aheadOfRound ∈ wsL_law := rin_22 _ (List.mem_of_getElem? (i := 4) rfl)
theorem q_22_5 : Cond.code yX4_aheadOfRound cX4_aheadOfRound 4 (some .int) ∈ wsL_law := rin_22 _ (List.mem_of_getElem? (i := 5) rfl)
theorem q_22_6 : Cond.methodLink RX4 63 yX4_playOn ∈ wsL_law := rin_22 _ (List.mem_of_getElem? (i := 6) rfl)
theorem q_22_7 : Cond.instanceMethod yX4_playOn ∈ wsL_law := rin_22 _ (List.mem_of_getElem? (i := 7) rfl)
theorem q_22_8 : Cond.selects RX4 yX4_playOn yX4_playOn ∈ wsL_law := rin_22 _ (List.mem_of_getElem? (i := 8) rfl)
theorem q_22_9 : Cond.code yX4_playOn cX4_playOn 5 (some .int) ∈ wsL_law := rin_22 _ (List.mem_of_getElem? (i := 9) rfl)
theorem q_22_10 : Cond.methodLink RX4 67 yX4_playsTo ∈ wsL_law := rin_22 _ (List.mem_of_getElem? (i := 10) rfl)
theorem q_22_11 : Cond.instanceMethod yX4_playsTo ∈ wsL_law := rin_22 _ (List.mem_of_getElem? (i := 11) rfl)
theorem q_22_12 : Cond.selects RX4 yX4_playsTo yX4_playsTo ∈ wsL_law := rin_22 _ (List.mem_of_getElem? (i := 12) rfl)
theorem q_22_13 : Cond.code yX4_playsTo cX4_playsTo 2 (some .int) ∈ wsL_law := rin_22 _ (List.mem_of_getElem? (i := 13) rfl)
theorem q_22_14 : Cond.methodLink RX6 179 yX4_round ∈ wsL_law := rin_22 _ (List.mem_of_getElem? (i := 14) rfl)
theorem q_22_15 : Cond.instanceMethod yX4_round ∈ wsL_law := rin_22 _ (List.mem_of_getElem? (i := 15) rfl)
theorem q_22_16 : Cond.selects RX4 yX4_round yX4_round ∈ wsL_law := rin_22 _ (List.mem_of_getElem? (i := 16) rfl)
theorem q_22_17 : Cond.code yX4_round cX4_round 5 (some .int) ∈ wsL_law := rin_22 _ (List.mem_of_getElem? (i := 17) rfl)
theorem q_22_18 : Cond.methodLink RL 61 yX7_again ∈ wsL_law := rin_22 _ (List.mem_of_getElem? (i := 18) rfl)
theorem q_22_19 : Cond.instanceMethod yX7_again ∈ wsL_law := rin_22 _ (List.mem_of_getElem? (i := 19) rfl)
theorem q_22_20 : Cond.selects RX7 yX7_again yX7_again ∈ wsL_law := rin_22 _ (List.mem_of_getElem? (i := 20) rfl)
theorem q_22_21 : Cond.code yX7_again cX7_again 5 (some .int) ∈ wsL_law := rin_22 _ (List.mem_of_getElem? (i := 21) rfl)
theorem q_22_22 : Cond.methodLink RL 62 yX6_like ∈ wsL_law := rin_22 _ (List.mem_of_getElem? (i := 22) rfl)
theorem q_22_23 : Cond.instanceMethod yX6_like ∈ wsL_law := rin_22 _ (List.mem_of_getElem? (i := 23) rfl)
theorem q_23_0 : Cond.selects RX6 yX6_like yX6_like ∈ wsL_law := rin_23 _ (List.mem_of_getElem? (i := 0) rfl)
theorem q_23_1 : Cond.code yX6_like cX6_like 5 (some .int) ∈ wsL_law := rin_23 _ (List.mem_of_getElem? (i := 1) rfl)
theorem q_23_2 : Cond.methodLink RX6 182 yX0_isKey ∈ wsL_law := rin_23 _ (List.mem_of_getElem? (i := 2) rfl)
theorem q_23_3 : Cond.instanceMethod yX0_isKey ∈ wsL_law := rin_23 _ (List.mem_of_getElem? (i := 3) rfl)
theorem q_23_4 : Cond.selects RX0 yX0_isKey yX0_isKey ∈ wsL_law := rin_23 _ (List.mem_of_getElem? (i := 4) rfl)
theorem q_23_5 : Cond.code yX0_isKey cX0_isKey 2 (some .boolean) ∈ wsL_law := rin_23 _ (List.mem_of_getElem? (i := 5) rfl)
theorem q_23_6 : Cond.methodLink RX0 40 yX0_keysThereAre ∈ wsL_law := rin_23 _ (List.mem_of_getElem? (i := 6) rfl)
theorem q_23_7 : Cond.methodLink RX6 185 yX0_lineAfter ∈ wsL_law := rin_23 _ (List.mem_of_getElem? (i := 7) rfl)
theorem q_23_8 : Cond.methodLink RL 65 yX7_like ∈ wsL_law := rin_23 _ (List.mem_of_getElem? (i := 8) rfl)
theorem q_23_9 : Cond.instanceMethod yX7_like ∈ wsL_law := rin_23 _ (List.mem_of_getElem? (i := 9) rfl)
theorem q_23_10 : Cond.selects RX7 yX7_like yX7_like ∈ wsL_law := rin_23 _ (List.mem_of_getElem? (i := 10) rfl)
theorem q_23_11 : Cond.code yX7_like cX7_like 5 (some .int) ∈ wsL_law := rin_23 _ (List.mem_of_getElem? (i := 11) rfl)
theorem q_23_12 : Cond.methodLink RX7 204 yX7_isKey ∈ wsL_law := rin_23 _ (List.mem_of_getElem? (i := 12) rfl)
theorem q_23_13 : Cond.instanceMethod yX7_isKey ∈ wsL_law := rin_23 _ (List.mem_of_getElem? (i := 13) rfl)
theorem q_23_14 : Cond.selects RX7 yX7_isKey yX7_isKey ∈ wsL_law := rin_23 _ (List.mem_of_getElem? (i := 14) rfl)
theorem q_23_15 : Cond.code yX7_isKey cX7_isKey 2 (some .boolean) ∈ wsL_law := rin_23 _ (List.mem_of_getElem? (i := 15) rfl)
theorem q_23_16 : Cond.methodLink RL 66 yX6_still ∈ wsL_law := rin_23 _ (List.mem_of_getElem? (i := 16) rfl)
theorem q_23_17 : Cond.instanceMethod yX6_still ∈ wsL_law := rin_23 _ (List.mem_of_getElem? (i := 17) rfl)
theorem q_23_18 : Cond.selects RX6 yX6_still yX6_still ∈ wsL_law := rin_23 _ (List.mem_of_getElem? (i := 18) rfl)
theorem q_23_19 : Cond.code yX6_still cX6_still 4 (some .int) ∈ wsL_law := rin_23 _ (List.mem_of_getElem? (i := 19) rfl)
theorem q_23_20 : Cond.methodLink RL 69 yX7_still ∈ wsL_law := rin_23 _ (List.mem_of_getElem? (i := 20) rfl)
theorem q_23_21 : Cond.instanceMethod yX7_still ∈ wsL_law := rin_23 _ (List.mem_of_getElem? (i := 21) rfl)
theorem q_23_22 : Cond.selects RX7 yX7_still yX7_still ∈ wsL_law := rin_23 _ (List.mem_of_getElem? (i := 22) rfl)
theorem q_23_23 : Cond.code yX7_still cX7_still 4 (some .int) ∈ wsL_law := rin_23 _ (List.mem_of_getElem? (i := 23) rfl)
theorem q_24_0 : Cond.methodLink RL 70 yX6_come ∈ wsL_law := rin_24 _ (List.mem_of_getElem? (i := 0) rfl)
theorem q_24_1 : Cond.instanceMethod yX6_come ∈ wsL_law := rin_24 _ (List.mem_of_getElem? (i := 1) rfl)
theorem q_24_2 : Cond.selects RX6 yX6_come yX6_come ∈ wsL_law := rin_24 _ (List.mem_of_getElem? (i := 2) rfl)
theorem q_24_3 : Cond.code yX6_come cX6_come 1 (some .int) ∈ wsL_law := rin_24 _ (List.mem_of_getElem? (i := 3) rfl)
theorem q_24_4 : Cond.methodLink RX6 188 yX4_reachable ∈ wsL_law := rin_24 _ (List.mem_of_getElem? (i := 4) rfl)
theorem q_24_5 : Cond.instanceMethod yX4_reachable ∈ wsL_law := rin_24 _ (List.mem_of_getElem? (i := 5) rfl)
theorem q_24_6 : Cond.selects RX4 yX4_reachable yX4_reachable ∈ wsL_law := rin_24 _ (List.mem_of_getElem? (i := 6) rfl)
theorem q_24_7 : Cond.code yX4_reachable cX4_reachable 4 (some .int) ∈ wsL_law := rin_24 _ (List.mem_of_getElem? (i := 7) rfl)
theorem q_24_8 : Cond.methodLink RX4 20 yX4_find ∈ wsL_law := rin_24 _ (List.mem_of_getElem? (i := 8) rfl)
theorem q_24_9 : Cond.methodLink RL 73 yX7_come ∈ wsL_law := rin_24 _ (List.mem_of_getElem? (i := 9) rfl)
theorem q_24_10 : Cond.instanceMethod yX7_come ∈ wsL_law := rin_24 _ (List.mem_of_getElem? (i := 10) rfl)
theorem q_24_11 : Cond.selects RX7 yX7_come yX7_come ∈ wsL_law := rin_24 _ (List.mem_of_getElem? (i := 11) rfl)
theorem q_24_12 : Cond.code yX7_come cX7_come 5 (some .int) ∈ wsL_law := rin_24 _ (List.mem_of_getElem? (i := 12) rfl)
theorem q_24_13 : Cond.methodLink RL 74 yX6_reading ∈ wsL_law := rin_24 _ (List.mem_of_getElem? (i := 13) rfl)
theorem q_24_14 : Cond.instanceMethod yX6_reading ∈ wsL_law := rin_24 _ (List.mem_of_getElem? (i := 14) rfl)
theorem q_24_15 : Cond.selects RX6 yX6_reading yX6_reading ∈ wsL_law := rin_24 _ (List.mem_of_getElem? (i := 15) rfl)
theorem q_24_16 : Cond.code yX6_reading cX6_reading 3 (some .int) ∈ wsL_law := rin_24 _ (List.mem_of_getElem? (i := 16) rfl)
theorem q_24_17 : Cond.methodLink RL 77 yX7_reading ∈ wsL_law := rin_24 _ (List.mem_of_getElem? (i := 17) rfl)
theorem q_24_18 : Cond.instanceMethod yX7_reading ∈ wsL_law := rin_24 _ (List.mem_of_getElem? (i := 18) rfl)
theorem q_24_19 : Cond.selects RX7 yX7_reading yX7_reading ∈ wsL_law := rin_24 _ (List.mem_of_getElem? (i := 19) rfl)
theorem q_24_20 : Cond.code yX7_reading cX7_reading 3 (some .int) ∈ wsL_law := rin_24 _ (List.mem_of_getElem? (i := 20) rfl)
theorem q_24_21 : Cond.methodLink RL 78 yX6_back ∈ wsL_law := rin_24 _ (List.mem_of_getElem? (i := 21) rfl)
theorem q_24_22 : Cond.instanceMethod yX6_back ∈ wsL_law := rin_24 _ (List.mem_of_getElem? (i := 22) rfl)
theorem q_24_23 : Cond.selects RX6 yX6_back yX6_back ∈ wsL_law := rin_24 _ (List.mem_of_getElem? (i := 23) rfl)
theorem q_25_0 : Cond.code yX6_back cX6_back 2 (some .int) ∈ wsL_law := rin_25 _ (List.mem_of_getElem? (i := 0) rfl)
theorem q_25_1 : Cond.methodLink RL 81 yX7_back ∈ wsL_law := rin_25 _ (List.mem_of_getElem? (i := 1) rfl)
theorem q_25_2 : Cond.instanceMethod yX7_back ∈ wsL_law := rin_25 _ (List.mem_of_getElem? (i := 2) rfl)
theorem q_25_3 : Cond.selects RX7 yX7_back yX7_back ∈ wsL_law := rin_25 _ (List.mem_of_getElem? (i := 3) rfl)
theorem q_25_4 : Cond.code yX7_back cX7_back 2 (some .int) ∈ wsL_law := rin_25 _ (List.mem_of_getElem? (i := 4) rfl)
theorem q_25_5 : Cond.methodLink RL 82 yX6_timings ∈ wsL_law := rin_25 _ (List.mem_of_getElem? (i := 5) rfl)
theorem q_25_6 : Cond.instanceMethod yX6_timings ∈ wsL_law := rin_25 _ (List.mem_of_getElem? (i := 6) rfl)
theorem q_25_7 : Cond.selects RX6 yX6_timings yX6_timings ∈ wsL_law := rin_25 _ (List.mem_of_getElem? (i := 7) rfl)
theorem q_25_8 : Cond.code yX6_timings cX6_timings 6 (some .int) ∈ wsL_law := rin_25 _ (List.mem_of_getElem? (i := 8) rfl)
theorem q_25_9 : Cond.methodLink RX6 191 yX6_readingsAreSo ∈ wsL_law := rin_25 _ (List.mem_of_getElem? (i := 9) rfl)
theorem q_25_10 : Cond.instanceMethod yX6_readingsAreSo ∈ wsL_law := rin_25 _ (List.mem_of_getElem? (i := 10) rfl)
theorem q_25_11 : Cond.selects RX6 yX6_readingsAreSo yX6_readingsAreSo ∈ wsL_law := rin_25 _ (List.mem_of_getElem? (i := 11) rfl)
theorem q_25_12 : Cond.code yX6_readingsAreSo cX6_readingsAreSo 3 (some .boolean) ∈ wsL_law := rin_25 _ (List.mem_of_getElem? (i := 12) rfl)
theorem q_25_13 : Cond.methodLink RL 85 yX7_timings ∈ wsL_law := rin_25 _ (List.mem_of_getElem? (i := 13) rfl)
theorem q_25_14 : Cond.instanceMethod yX7_timings ∈ wsL_law := rin_25 _ (List.mem_of_getElem? (i := 14) rfl)
theorem q_25_15 : Cond.selects RX7 yX7_timings yX7_timings ∈ wsL_law := rin_25 _ (List.mem_of_getElem? (i := 15) rfl)
theorem q_25_16 : Cond.code yX7_timings cX7_timings 5 (some .int) ∈ wsL_law := rin_25 _ (List.mem_of_getElem? (i := 16) rfl)
theorem q_25_17 : Cond.methodLink RX7 207 yX7_areSo ∈ wsL_law := rin_25 _ (List.mem_of_getElem? (i := 17) rfl)
theorem q_25_18 : Cond.instanceMethod yX7_areSo ∈ wsL_law := rin_25 _ (List.mem_of_getElem? (i := 18) rfl)
theorem q_25_19 : Cond.selects RX7 yX7_areSo yX7_areSo ∈ wsL_law := rin_25 _ (List.mem_of_getElem? (i := 19) rfl)
theorem q_25_20 : Cond.code yX7_areSo cX7_areSo 2 (some .boolean) ∈ wsL_law := rin_25 _ (List.mem_of_getElem? (i := 20) rfl)
theorem q_25_21 : Cond.methodLink RL 86 yX6_kinds ∈ wsL_law := rin_25 _ (List.mem_of_getElem? (i := 21) rfl)
theorem q_25_22 : Cond.instanceMethod yX6_kinds ∈ wsL_law := rin_25 _ (List.mem_of_getElem? (i := 22) rfl)
theorem q_25_23 : Cond.selects RX6 yX6_kinds yX6_kinds ∈ wsL_law := rin_25 _ (List.mem_of_getElem? (i := 23) rfl)
theorem q_26_0 : Cond.code yX6_kinds cX6_kinds 6 (some .int) ∈ wsL_law := rin_26 _ (List.mem_of_getElem? (i := 0) rfl)
theorem q_26_1 : Cond.methodLink RL 89 yX7_kinds ∈ wsL_law := rin_26 _ (List.mem_of_getElem? (i := 1) rfl)
theorem q_26_2 : Cond.instanceMethod yX7_kinds ∈ wsL_law := rin_26 _ (List.mem_of_getElem? (i := 2) rfl)
theorem q_26_3 : Cond.selects RX7 yX7_kinds yX7_kinds ∈ wsL_law := rin_26 _ (List.mem_of_getElem? (i := 3) rfl)
theorem q_26_4 : Cond.code yX7_kinds cX7_kinds 5 (some .int) ∈ wsL_law := rin_26 _ (List.mem_of_getElem? (i := 4) rfl)
theorem q_26_5 : Cond.methodLink RL 90 yX6_odds ∈ wsL_law := rin_26 _ (List.mem_of_getElem? (i := 5) rfl)
theorem q_26_6 : Cond.instanceMethod yX6_odds ∈ wsL_law := rin_26 _ (List.mem_of_getElem? (i := 6) rfl)
theorem q_26_7 : Cond.selects RX6 yX6_odds yX6_odds ∈ wsL_law := rin_26 _ (List.mem_of_getElem? (i := 7) rfl)
theorem q_26_8 : Cond.code yX6_odds cX6_odds 5 (some .long) ∈ wsL_law := rin_26 _ (List.mem_of_getElem? (i := 8) rfl)
theorem q_26_9 : Cond.constantLong RX6 195 (-9223372036854775808) ∈ wsL_law := rin_26 _ (List.mem_of_getElem? (i := 9) rfl)
theorem q_26_10 : Cond.methodLink RX6 197 yX6_rowsToEmpty ∈ wsL_law := rin_26 _ (List.mem_of_getElem? (i := 10) rfl)
theorem q_26_11 : Cond.static yX6_rowsToEmpty ∈ wsL_law := rin_26 _ (List.mem_of_getElem? (i := 11) rfl)
theorem q_26_12 : Cond.code yX6_rowsToEmpty cX6_rowsToEmpty 4 (some .int) ∈ wsL_law := rin_26 _ (List.mem_of_getElem? (i := 12) rfl)
theorem q_26_13 : Cond.methodLink RL 94 yX7_odds ∈ wsL_law := rin_26 _ (List.mem_of_getElem? (i := 13) rfl)
theorem q_26_14 : Cond.instanceMethod yX7_odds ∈ wsL_law := rin_26 _ (List.mem_of_getElem? (i := 14) rfl)
theorem q_26_15 : Cond.selects RX7 yX7_odds yX7_odds ∈ wsL_law := rin_26 _ (List.mem_of_getElem? (i := 15) rfl)
theorem q_26_16 : Cond.code yX7_odds cX7_odds 7 (some .long) ∈ wsL_law := rin_26 _ (List.mem_of_getElem? (i := 16) rfl)
theorem q_26_17 : Cond.constantLong RX7 78 (-9223372036854775808) ∈ wsL_law := rin_26 _ (List.mem_of_getElem? (i := 17) rfl)
theorem q_26_18 : Cond.methodLink RX7 210 yX7_inLeastTerms ∈ wsL_law := rin_26 _ (List.mem_of_getElem? (i := 18) rfl)
theorem q_26_19 : Cond.static yX7_inLeastTerms ∈ wsL_law := rin_26 _ (List.mem_of_getElem? (i := 19) rfl)
theorem q_26_20 : Cond.code yX7_inLeastTerms cX7_inLeastTerms 11 (some .long) ∈ wsL_law := rin_26 _ (List.mem_of_getElem? (i := 20) rfl)
theorem q_26_21 : Cond.methodLink RL 95 yX6_sheet ∈ wsL_law := rin_26 _ (List.mem_of_getElem? (i := 21) rfl)
theorem q_26_22 : Cond.instanceMethod yX6_sheet ∈ wsL_law := rin_26 _ (List.mem_of_getElem? (i := 22) rfl)
theorem q_26_23 : Cond.selects RX6 yX6_sheet yX6_sheet ∈ wsL_law := rin_26 _ (List.mem_of_getElem? (i := 23) rfl)
theorem q_27_0 : Cond.code yX6_sheet cX6_sheet 5 (some .int) ∈ wsL_law := rin_27 _ (List.mem_of_getElem? (i := 0) rfl)
theorem q_27_1 : Cond.methodLink RX6 200 yX5_renew ∈ wsL_law := rin_27 _ (List.mem_of_getElem? (i := 1) rfl)
theorem q_27_2 : Cond.instanceMethod yX5_renew ∈ wsL_law := rin_27 _ (List.mem_of_getElem? (i := 2) rfl)
theorem q_27_3 : Cond.selects RX5 yX5_renew yX5_renew ∈ wsL_law := rin_27 _ (List.mem_of_getElem? (i := 3) rfl)
theorem q_27_4 : Cond.code yX5_renew cX5_renew 3 none ∈ wsL_law := rin_27 _ (List.mem_of_getElem? (i := 4) rfl)
theorem q_27_5 : Cond.methodLink RX5 22 yJ7_fill_53178 ∈ wsL_law := rin_27 _ (List.mem_of_getElem? (i := 5) rfl)
theorem q_27_6 : Cond.methodLink RL 99 yX7_sheet ∈ wsL_law := rin_27 _ (List.mem_of_getElem? (i := 6) rfl)
theorem q_27_7 : Cond.instanceMethod yX7_sheet ∈ wsL_law := rin_27 _ (List.mem_of_getElem? (i := 7) rfl)
theorem q_27_8 : Cond.selects RX7 yX7_sheet yX7_sheet ∈ wsL_law := rin_27 _ (List.mem_of_getElem? (i := 8) rfl)
theorem q_27_9 : Cond.code yX7_sheet cX7_sheet 5 (some .int) ∈ wsL_law := rin_27 _ (List.mem_of_getElem? (i := 9) rfl)
theorem q_27_10 : Cond.methodLink RL 100 yX6_lose ∈ wsL_law := rin_27 _ (List.mem_of_getElem? (i := 10) rfl)
theorem q_27_11 : Cond.instanceMethod yX6_lose ∈ wsL_law := rin_27 _ (List.mem_of_getElem? (i := 11) rfl)
theorem q_27_12 : Cond.selects RX6 yX6_lose yX6_lose ∈ wsL_law := rin_27 _ (List.mem_of_getElem? (i := 12) rfl)
theorem q_27_13 : Cond.code yX6_lose cX6_lose 4 (some .int) ∈ wsL_law := rin_27 _ (List.mem_of_getElem? (i := 13) rfl)
theorem q_27_14 : Cond.fieldLink RX6 204 "MacroKeys$Sheet" "lane" "I" ∈ wsL_law := rin_27 _ (List.mem_of_getElem? (i := 14) rfl)
theorem q_27_15 : Cond.methodLink RL 103 yX7_lose ∈ wsL_law := rin_27 _ (List.mem_of_getElem? (i := 15) rfl)
theorem q_27_16 : Cond.instanceMethod yX7_lose ∈ wsL_law := rin_27 _ (List.mem_of_getElem? (i := 16) rfl)
theorem q_27_17 : Cond.selects RX7 yX7_lose yX7_lose ∈ wsL_law := rin_27 _ (List.mem_of_getElem? (i := 17) rfl)
theorem q_27_18 : Cond.code yX7_lose cX7_lose 3 (some .int) ∈ wsL_law := rin_27 _ (List.mem_of_getElem? (i := 18) rfl)
theorem q_27_19 : Cond.methodLink RL 104 yX6_put ∈ wsL_law := rin_27 _ (List.mem_of_getElem? (i := 19) rfl)
theorem q_27_20 : Cond.instanceMethod yX6_put ∈ wsL_law := rin_27 _ (List.mem_of_getElem? (i := 20) rfl)
theorem q_27_21 : Cond.selects RX6 yX6_put yX6_put ∈ wsL_law := rin_27 _ (List.mem_of_getElem? (i := 21) rfl)
theorem q_27_22 : Cond.code yX6_put cX6_put 6 (some .int) ∈ wsL_law := rin_27 _ (List.mem_of_getElem? (i := 22) rfl)
theorem q_27_23 : Cond.methodLink RX6 207 yX5_cut ∈ wsL_law := rin_27 _ (List.mem_of_getElem? (i := 23) rfl)
theorem q_28_0 : Cond.instanceMethod yX5_cut ∈ wsL_law := rin_28 _ (List.mem_of_getElem? (i := 0) rfl)
theorem q_28_1 : Cond.selects RX5 yX5_cut yX5_cut ∈ wsL_law := rin_28 _ (List.mem_of_getElem? (i := 1) rfl)
theorem q_28_2 : Cond.code yX5_cut cX5_cut 2 (some .int) ∈ wsL_law := rin_28 _ (List.mem_of_getElem? (i := 2) rfl)
theorem q_28_3 : Cond.methodLink RL 107 yX7_put ∈ wsL_law := rin_28 _ (List.mem_of_getElem? (i := 3) rfl)
theorem q_28_4 : Cond.instanceMethod yX7_put ∈ wsL_law := rin_28 _ (List.mem_of_getElem? (i := 4) rfl)
theorem q_28_5 : Cond.selects RX7 yX7_put yX7_put ∈ wsL_law := rin_28 _ (List.mem_of_getElem? (i := 5) rfl)
theorem q_28_6 : Cond.code yX7_put cX7_put 4 (some .int) ∈ wsL_law := rin_28 _ (List.mem_of_getElem? (i := 6) rfl)
theorem q_28_7 : Cond.methodLink RL 108 yX6_cell ∈ wsL_law := rin_28 _ (List.mem_of_getElem? (i := 7) rfl)
theorem q_28_8 : Cond.instanceMethod yX6_cell ∈ wsL_law := rin_28 _ (List.mem_of_getElem? (i := 8) rfl)
theorem q_28_9 : Cond.selects RX6 yX6_cell yX6_cell ∈ wsL_law := rin_28 _ (List.mem_of_getElem? (i := 9) rfl)
theorem q_28_10 : Cond.code yX6_cell cX6_cell 5 (some .long) ∈ wsL_law := rin_28 _ (List.mem_of_getElem? (i := 10) rfl)
theorem q_28_11 : Cond.methodLink RL 112 yX7_cell ∈ wsL_law := rin_28 _ (List.mem_of_getElem? (i := 11) rfl)
theorem q_28_12 : Cond.instanceMethod yX7_cell ∈ wsL_law := rin_28 _ (List.mem_of_getElem? (i := 12) rfl)
theorem q_28_13 : Cond.selects RX7 yX7_cell yX7_cell ∈ wsL_law := rin_28 _ (List.mem_of_getElem? (i := 13) rfl)
theorem q_28_14 : Cond.code yX7_cell cX7_cell 4 (some .long) ∈ wsL_law := rin_28 _ (List.mem_of_getElem? (i := 14) rfl)
theorem q_28_15 : Cond.methodLink RX7 214 yX7_lost ∈ wsL_law := rin_28 _ (List.mem_of_getElem? (i := 15) rfl)
theorem q_28_16 : Cond.instanceMethod yX7_lost ∈ wsL_law := rin_28 _ (List.mem_of_getElem? (i := 16) rfl)
theorem q_28_17 : Cond.selects RX7 yX7_lost yX7_lost ∈ wsL_law := rin_28 _ (List.mem_of_getElem? (i := 17) rfl)
theorem q_28_18 : Cond.code yX7_lost cX7_lost 2 (some .long) ∈ wsL_law := rin_28 _ (List.mem_of_getElem? (i := 18) rfl)
theorem q_28_19 : Cond.methodLink RL 113 yX6_copy ∈ wsL_law := rin_28 _ (List.mem_of_getElem? (i := 19) rfl)
theorem q_28_20 : Cond.instanceMethod yX6_copy ∈ wsL_law := rin_28 _ (List.mem_of_getElem? (i := 20) rfl)
theorem q_28_21 : Cond.selects RX6 yX6_copy yX6_copy ∈ wsL_law := rin_28 _ (List.mem_of_getElem? (i := 21) rfl)
theorem q_28_22 : Cond.code yX6_copy cX6_copy 8 (some .int) ∈ wsL_law := rin_28 _ (List.mem_of_getElem? (i := 22) rfl)
theorem q_28_23 : Cond.methodLink RX6 214 arraycopyName ∈ wsL_law := rin_28 _ (List.mem_of_getElem? (i := 23) rfl)
theorem q_29_0 : Cond.methodLink RX6 210 yX5_hasAll ∈ wsL_law := rin_29 _ (List.mem_of_getElem? (i := 0) rfl)
theorem q_29_1 : Cond.methodLink RL 116 yX7_copy ∈ wsL_law := rin_29 _ (List.mem_of_getElem? (i := 1) rfl)
theorem q_29_2 : Cond.instanceMethod yX7_copy ∈ wsL_law := rin_29 _ (List.mem_of_getElem? (i := 2) rfl)
theorem q_29_3 : Cond.selects RX7 yX7_copy yX7_copy ∈ wsL_law := rin_29 _ (List.mem_of_getElem? (i := 3) rfl)
theorem q_29_4 : Cond.code yX7_copy cX7_copy 10 (some .int) ∈ wsL_law := rin_29 _ (List.mem_of_getElem? (i := 4) rfl)
theorem q_29_5 : Cond.methodLink RL 117 yX6_tell ∈ wsL_law := rin_29 _ (List.mem_of_getElem? (i := 5) rfl)
theorem q_29_6 : Cond.instanceMethod yX6_tell ∈ wsL_law := rin_29 _ (List.mem_of_getElem? (i := 6) rfl)
theorem q_29_7 : Cond.selects RX6 yX6_tell yX6_tell ∈ wsL_law := rin_29 _ (List.mem_of_getElem? (i := 7) rfl)
theorem q_29_8 : Cond.code yX6_tell cX6_tell 3 (some .int) ∈ wsL_law := rin_29 _ (List.mem_of_getElem? (i := 8) rfl)
theorem q_29_9 : Cond.methodLink RX6 220 yX6_evenTells ∈ wsL_law := rin_29 _ (List.mem_of_getElem? (i := 9) rfl)
theorem q_29_10 : Cond.instanceMethod yX6_evenTells ∈ wsL_law := rin_29 _ (List.mem_of_getElem? (i := 10) rfl)
theorem q_29_11 : Cond.selects RX6 yX6_evenTells yX6_evenTells ∈ wsL_law := rin_29 _ (List.mem_of_getElem? (i := 11) rfl)
theorem q_29_12 : Cond.code yX6_evenTells cX6_evenTells 3 (some .int) ∈ wsL_law := rin_29 _ (List.mem_of_getElem? (i := 12) rfl)
theorem q_29_13 : Cond.methodLink RX6 230 yX6_leave ∈ wsL_law := rin_29 _ (List.mem_of_getElem? (i := 13) rfl)
theorem q_29_14 : Cond.instanceMethod yX6_leave ∈ wsL_law := rin_29 _ (List.mem_of_getElem? (i := 14) rfl)
theorem q_29_15 : Cond.selects RX6 yX6_leave yX6_leave ∈ wsL_law := rin_29 _ (List.mem_of_getElem? (i := 15) rfl)
theorem q_29_16 : Cond.code yX6_leave cX6_leave 2 none ∈ wsL_law := rin_29 _ (List.mem_of_getElem? (i := 16) rfl)
theorem q_29_17 : Cond.fieldLink RX6 234 "MacroKeys" "traced" "I" ∈ wsL_law := rin_29 _ (List.mem_of_getElem? (i := 17) rfl)
theorem q_29_18 : Cond.methodLink RX6 224 yX6_broadTells ∈ wsL_law := rin_29 _ (List.mem_of_getElem? (i := 18) rfl)
theorem q_29_19 : Cond.instanceMethod yX6_broadTells ∈ wsL_law := rin_29 _ (List.mem_of_getElem? (i := 19) rfl)
theorem q_29_20 : Cond.selects RX6 yX6_broadTells yX6_broadTells ∈ wsL_law := rin_29 _ (List.mem_of_getElem? (i := 20) rfl)
theorem q_29_21 : Cond.code yX6_broadTells cX6_broadTells 2 (some .int) ∈ wsL_law := rin_29 _ (List.mem_of_getElem? (i := 21) rfl)
theorem q_29_22 : Cond.methodLink RX6 227 yX6_plainTells ∈ wsL_law := rin_29 _ (List.mem_of_getElem? (i := 22) rfl)
theorem q_29_23 : Cond.instanceMethod yX6_plainTells ∈ wsL_law := rin_29 _ (List.mem_of_getElem? (i := 23) rfl)
theorem q_30_0 : Cond.selects RX6 yX6_plainTells yX6_plainTells ∈ wsL_law := rin_30 _ (List.mem_of_getElem? (i := 0) rfl)
theorem q_30_1 : Cond.code yX6_plainTells cX6_plainTells 2 (some .int) ∈ wsL_law := rin_30 _ (List.mem_of_getElem? (i := 1) rfl)
theorem q_30_2 : Cond.methodLink RL 120 yX7_tell ∈ wsL_law := rin_30 _ (List.mem_of_getElem? (i := 2) rfl)
theorem q_30_3 : Cond.instanceMethod yX7_tell ∈ wsL_law := rin_30 _ (List.mem_of_getElem? (i := 3) rfl)
theorem q_30_4 : Cond.selects RX7 yX7_tell yX7_tell ∈ wsL_law := rin_30 _ (List.mem_of_getElem? (i := 4) rfl)
theorem q_30_5 : Cond.code yX7_tell cX7_tell 3 (some .int) ∈ wsL_law := rin_30 _ (List.mem_of_getElem? (i := 5) rfl)
theorem q_30_6 : Cond.methodLink RX7 221 yX7_begins ∈ wsL_law := rin_30 _ (List.mem_of_getElem? (i := 6) rfl)
theorem q_30_7 : Cond.instanceMethod yX7_begins ∈ wsL_law := rin_30 _ (List.mem_of_getElem? (i := 7) rfl)
theorem q_30_8 : Cond.selects RX7 yX7_begins yX7_begins ∈ wsL_law := rin_30 _ (List.mem_of_getElem? (i := 8) rfl)
theorem q_30_9 : Cond.code yX7_begins cX7_begins 2 none ∈ wsL_law := rin_30 _ (List.mem_of_getElem? (i := 9) rfl)
theorem q_30_10 : Cond.fieldLink RX7 218 "MacroKeysModel" "trace" "I" ∈ wsL_law := rin_30 _ (List.mem_of_getElem? (i := 10) rfl)
theorem q_30_11 : Cond.methodLink RL 121 yX6_click ∈ wsL_law := rin_30 _ (List.mem_of_getElem? (i := 11) rfl)
theorem q_30_12 : Cond.instanceMethod yX6_click ∈ wsL_law := rin_30 _ (List.mem_of_getElem? (i := 12) rfl)
theorem q_30_13 : Cond.selects RX6 yX6_click yX6_click ∈ wsL_law := rin_30 _ (List.mem_of_getElem? (i := 13) rfl)
theorem q_30_14 : Cond.code yX6_click cX6_click 3 (some .int) ∈ wsL_law := rin_30 _ (List.mem_of_getElem? (i := 14) rfl)
theorem q_30_15 : Cond.methodLink RL 124 yX7_click ∈ wsL_law := rin_30 _ (List.mem_of_getElem? (i := 15) rfl)
theorem q_30_16 : Cond.instanceMethod yX7_click ∈ wsL_law := rin_30 _ (List.mem_of_getElem? (i := 16) rfl)
theorem q_30_17 : Cond.selects RX7 yX7_click yX7_click ∈ wsL_law := rin_30 _ (List.mem_of_getElem? (i := 17) rfl)
theorem q_30_18 : Cond.code yX7_click cX7_click 2 (some .int) ∈ wsL_law := rin_30 _ (List.mem_of_getElem? (i := 18) rfl)
theorem q_30_19 : Cond.methodLink RL 125 yX6_as ∈ wsL_law := rin_30 _ (List.mem_of_getElem? (i := 19) rfl)
theorem q_30_20 : Cond.instanceMethod yX6_as ∈ wsL_law := rin_30 _ (List.mem_of_getElem? (i := 20) rfl)
theorem q_30_21 : Cond.selects RX6 yX6_as yX6_as ∈ wsL_law := rin_30 _ (List.mem_of_getElem? (i := 21) rfl)
theorem q_30_22 : Cond.code yX6_as cX6_as 4 (some .int) ∈ wsL_law := rin_30 _ (List.mem_of_getElem? (i := 22) rfl)
theorem q_30_23 : Cond.methodLink RL 128 yX7_as ∈ wsL_law := rin_30 _ (List.mem_of_getElem? (i := 23) rfl)
theorem q_31_0 : Cond.instanceMethod yX7_as ∈ wsL_law := rin_31 _ (List.mem_of_getElem? (i := 0) rfl)
theorem q_31_1 : Cond.selects RX7 yX7_as yX7_as ∈ wsL_law := rin_31 _ (List.mem_of_getElem? (i := 1) rfl)
theorem q_31_2 : Cond.code yX7_as cX7_as 3 (some .int) ∈ wsL_law := rin_31 _ (List.mem_of_getElem? (i := 2) rfl)
theorem q_31_3 : Cond.methodLink RL 129 yX6_trace ∈ wsL_law := rin_31 _ (List.mem_of_getElem? (i := 3) rfl)
theorem q_31_4 : Cond.instanceMethod yX6_trace ∈ wsL_law := rin_31 _ (List.mem_of_getElem? (i := 4) rfl)
theorem q_31_5 : Cond.selects RX6 yX6_trace yX6_trace ∈ wsL_law := rin_31 _ (List.mem_of_getElem? (i := 5) rfl)
theorem q_31_6 : Cond.code yX6_trace cX6_trace 1 (some .int) ∈ wsL_law := rin_31 _ (List.mem_of_getElem? (i := 6) rfl)
theorem q_31_7 : Cond.methodLink RL 132 yX7_trace ∈ wsL_law := rin_31 _ (List.mem_of_getElem? (i := 7) rfl)
theorem q_31_8 : Cond.instanceMethod yX7_trace ∈ wsL_law := rin_31 _ (List.mem_of_getElem? (i := 8) rfl)
theorem q_31_9 : Cond.selects RX7 yX7_trace yX7_trace ∈ wsL_law := rin_31 _ (List.mem_of_getElem? (i := 9) rfl)
theorem q_31_10 : Cond.code yX7_trace cX7_trace 1 (some .int) ∈ wsL_law := rin_31 _ (List.mem_of_getElem? (i := 10) rfl)
theorem q_31_11 : Cond.methodLink RL 133 yX6_fault ∈ wsL_law := rin_31 _ (List.mem_of_getElem? (i := 11) rfl)
theorem q_31_12 : Cond.instanceMethod yX6_fault ∈ wsL_law := rin_31 _ (List.mem_of_getElem? (i := 12) rfl)
theorem q_31_13 : Cond.selects RX6 yX6_fault yX6_fault ∈ wsL_law := rin_31 _ (List.mem_of_getElem? (i := 13) rfl)
theorem q_31_14 : Cond.code yX6_fault cX6_fault 1 (some .int) ∈ wsL_law := rin_31 _ (List.mem_of_getElem? (i := 14) rfl)
theorem q_31_15 : Cond.methodLink RL 136 yX7_fault ∈ wsL_law := rin_31 _ (List.mem_of_getElem? (i := 15) rfl)
theorem q_31_16 : Cond.instanceMethod yX7_fault ∈ wsL_law := rin_31 _ (List.mem_of_getElem? (i := 16) rfl)
theorem q_31_17 : Cond.selects RX7 yX7_fault yX7_fault ∈ wsL_law := rin_31 _ (List.mem_of_getElem? (i := 17) rfl)
theorem q_31_18 : Cond.code yX7_fault cX7_fault 1 (some .int) ∈ wsL_law := rin_31 _ (List.mem_of_getElem? (i := 18) rfl)
theorem q_31_19 : Cond.methodLink RL 137 yX6_many ∈ wsL_law := rin_31 _ (List.mem_of_getElem? (i := 19) rfl)
theorem q_31_20 : Cond.instanceMethod yX6_many ∈ wsL_law := rin_31 _ (List.mem_of_getElem? (i := 20) rfl)
theorem q_31_21 : Cond.selects RX6 yX6_many yX6_many ∈ wsL_law := rin_31 _ (List.mem_of_getElem? (i := 21) rfl)
theorem q_31_22 : Cond.code yX6_many cX6_many 2 (some .int) ∈ wsL_law := rin_31 _ (List.mem_of_getElem? (i := 22) rfl)
theorem q_31_23 : Cond.methodLink RL 140 yX7_many ∈ wsL_law := rin_31 _ (List.mem_of_getElem? (i := 23) rfl)
theorem q_32_0 : Cond.instanceMethod yX7_many ∈ wsL_law := rin_32 _ (List.mem_of_getElem? (i := 0) rfl)
theorem q_32_1 : Cond.selects RX7 yX7_many yX7_many ∈ wsL_law := rin_32 _ (List.mem_of_getElem? (i := 1) rfl)
theorem q_32_2 : Cond.code yX7_many cX7_many 2 (some .int) ∈ wsL_law := rin_32 _ (List.mem_of_getElem? (i := 2) rfl)
section fields
variable {p : Program} {l : Launch} {e : Env} {R : Room} {s : State} {m : MethodId} {args : Array Value} {below : List Frame} {meth : Method} {c : Code} {H : Heap} {locs : List Loc} {cells slots : Nat} {Q : State → Prop} {cc : ByteArray} {nL : Nat} {ret : Option FieldType} {E : Ev} {S : St} {pc : Nat} {ls : Array Slot} {rest : List Value}
theorem fg_X0_12 (X : GX p s m meth c args cc nL ret RX0 E) (hH : HH E S s H locs) (hdg : decode cc pc = .ok (.getfield 12, 3)) (kk : W p l e R s m args below meth c H locs cells slots Q (F0 m (pc + 3) ls (.ref (bb E 2) :: rest))) : W p l e R s m args below meth c H locs cells slots Q (F0 m pc ls (.ref (bb E 1) :: rest)) := r_get X hH (k := 1) (by decide) (e_1 E _) rfl inlX0 (by decide) q_2_15 rfl hdg kk
theorem fg_X0_20 (X : GX p s m meth c args cc nL ret RX0 E) (hH : HH E S s H locs) (hdg : decode cc pc = .ok (.getfield 20, 3)) (kk : W p l e R s m args below meth c H locs cells slots Q (F0 m (pc + 3) ls (.ref (bb E 3) :: rest))) : W p l e R s m args below meth c H locs cells slots Q (F0 m pc ls (.ref (bb E 1) :: rest)) := r_get X hH (k := 2) (by decide) (e_1 E _) rfl inlX0 (by decide) q_2_16 rfl hdg kk
theorem fg_X0_24 (X : GX p s m meth c args cc nL ret RX0 E) (hH : HH E S s H locs) (hdg : decode cc pc = .ok (.getfield 24, 3)) (kk : W p l e R s m args below meth c H locs cells slots Q (F0 m (pc + 3) ls (.int (S 4 1) :: rest))) : W p l e R s m args below meth c H locs cells slots Q (F0 m pc ls (.ref (bb E 4) :: rest)) := r_get X hH (k := 1) (by decide) (e_4 E _) rfl inlX3 (by decide) q_7_17 rfl hdg kk
theorem fg_X0_30 (X : GX p s m meth c args cc nL ret RX0 E) (hH : HH E S s H locs) (hdg : decode cc pc = .ok (.getfield 30, 3)) (kk : W p l e R s m args below meth c H locs cells slots Q (F0 m (pc + 3) ls (.int (S 1 0) :: rest))) : W p l e R s m args below meth c H locs cells slots Q (F0 m pc ls (.ref (bb E 1) :: rest)) := r_get X hH (k := 0) (by decide) (e_1 E _) rfl inlX0 (by decide) q_7_18 rfl hdg kk
theorem fp_X0_30 (X : GX p s m meth c args cc nL ret RX0 E) (hH : HH E S s H locs) {v : Int32} (hdg : decode cc pc = .ok (.putfield 30, 3)) (kk : ∀ (H1 : Heap) (locs1 : List Loc), HH E (st S 1 0 v) s H1 locs1 → W p l e R s m args below meth c H1 locs1 cells slots Q (F0 m (pc + 3) ls rest)) : W p l e R s m args below meth c H locs cells slots Q (F0 m pc ls (.int v :: .ref (bb E 1) :: rest)) := r_put X hH (k := 0) (st S 1 0 v) (by decide) (e_1 E _) rfl inlX0 tyX0_ok nmX0 (by decide) q_7_18 rfl rfl rfl rfl (by simp only [List.length_cons, List.length_nil]; decide) (by rw [e_1]; simp [st]) (fun a h => st_ne h) hdg kk
theorem fg_X0_31 (X : GX p s m meth c args cc nL ret RX0 E) (hH : HH E S s H locs) (hdg : decode cc pc = .ok (.getfield 31, 3)) (kk : W p l e R s m args below meth c H locs cells slots Q (F0 m (pc + 3) ls (.ref (bb E 5) :: rest))) : W p l e R s m args below meth c H locs cells slots Q (F0 m pc ls (.ref (bb E 4) :: rest)) := r_get X hH (k := 0) (by decide) (e_4 E _) rfl inlX3 (by decide) q_7_19 rfl hdg kk
theorem fg_X0_48 (X : GX p s m meth c args cc nL ret RX0 E) (hH : HH E S s H locs) {j : Nat} (hj : j < 6) (hdg : decode cc pc = .ok (.getfield 48, 3)) (kk : W p l e R s m args below meth c H locs cells slots Q (F0 m (pc + 3) ls (.int (S (20 + j) 0) :: rest))) : W p l e R s m args below meth c H locs cells slots Q (F0 m pc ls (.ref (bb E (20 + j)) :: rest)) := r_get X hH (k := 0) (mk54 hj) (e_mk E hj _) rfl inlX2 (by decide) q_12_21 rfl hdg kk
theorem fp_X0_48 (X : GX p s m meth c args cc nL ret RX0 E) (hH : HH E S s H locs) {j : Nat} (hj : j < 6) {v : Int32} (hdg : decode cc pc = .ok (.putfield 48, 3)) (kk : ∀ (H1 : Heap) (locs1 : List Loc), HH E (st S (20 + j) 0 v) s H1 locs1 → W p l e R s m args below meth c H1 locs1 cells slots Q (F0 m (pc + 3) ls rest)) : W p l e R s m args below meth c H locs cells slots Q (F0 m pc ls (.int v :: .ref (bb E (20 + j)) :: rest)) := r_put X hH (k := 0) (st S (20 + j) 0 v) (mk54 hj) (e_mk E hj _) rfl inlX2 tyX2_ok nmX2 (by decide) q_12_21 rfl rfl rfl rfl (by simp only [List.length_cons, List.length_nil]; decide) (by rw [e_mk E hj]; simp [st]) (fun a h => st_ne h) hdg kk
theorem fg_X0_51 (X : GX p s m meth c args cc nL ret RX0 E) (hH : HH E S s H locs) {j : Nat} (hj : j < 6) (hdg : decode cc pc = .ok (.getfield 51, 3)) (kk : W p l e R s m args below meth c H locs cells slots Q (F0 m (pc + 3) ls (.int (S (20 + j) 1) :: rest))) : W p l e R s m args below meth c H locs cells slots Q (F0 m pc ls (.ref (bb E (20 + j)) :: rest)) := r_get X hH (k := 1) (mk54 hj) (e_mk E hj _) rfl inlX2 (by decide) q_12_22 rfl hdg kk
theorem fp_X0_51 (X : GX p s m meth c args cc nL ret RX0 E) (hH : HH E S s H locs) {j : Nat} (hj : j < 6) {v : Int32} (hdg : decode cc pc = .ok (.putfield 51, 3)) (kk : ∀ (H1 : Heap) (locs1 : List Loc), HH E (st S (20 + j) 1 v) s H1 locs1 → W p l e R s m args below meth c H1 locs1 cells slots Q (F0 m (pc + 3) ls rest)) : W p l e R s m args below meth c H locs cells slots Q (F0 m pc ls (.int v :: .ref (bb E (20 + j)) :: rest)) := r_put X hH (k := 1) (st S (20 + j) 1 v) (mk54 hj) (e_mk E hj _) rfl inlX2 tyX2_ok nmX2 (by decide) q_12_22 rfl rfl rfl rfl (by simp only [List.length_cons, List.length_nil]; decide) (by rw [e_mk E hj]; simp [st]) (fun a h => st_ne h) hdg kk
theorem fg_X0_60 (X : GX p s m meth c args cc nL ret RX0 E) (hH : HH E S s H locs) {j : Nat} (hj : j < 6) (hdg : decode cc pc = .ok (.getfield 60, 3)) (kk : W p l e R s m args below meth c H locs cells slots Q (F0 m (pc + 3) ls (.int (S (20 + j) 2) :: rest))) : W p l e R s m args below meth c H locs cells slots Q (F0 m pc ls (.ref (bb E (20 + j)) :: rest)) := r_get X hH (k := 2) (mk54 hj) (e_mk E hj _) rfl inlX2 (by decide) q_11_4 rfl hdg kk
theorem fg_X2_9 (X : GX p s m meth c args cc nL ret RX2 E) (hH : HH E S s H locs) {j : Nat} (hj : j < 6) (hdg : decode cc pc = .ok (.getfield 9, 3)) (kk : W p l e R s m args below meth c H locs cells slots Q (F0 m (pc + 3) ls (.ref (bb E (26 + j)) :: rest))) : W p l e R s m args below meth c H locs cells slots Q (F0 m pc ls (.ref (bb E (20 + j)) :: rest)) := r_get X hH (k := 3) (mk54 hj) (e_mk E hj _) rfl inlX2 (by decide) q_2_20 rfl hdg kk
theorem fg_X2_15 (X : GX p s m meth c args cc nL ret RX2 E) (hH : HH E S s H locs) {j : Nat} (hj : j < 6) (hdg : decode cc pc = .ok (.getfield 15, 3)) (kk : W p l e R s m args below meth c H locs cells slots Q (F0 m (pc + 3) ls (.int (S (20 + j) 0) :: rest))) : W p l e R s m args below meth c H locs cells slots Q (F0 m pc ls (.ref (bb E (20 + j)) :: rest)) := r_get X hH (k := 0) (mk54 hj) (e_mk E hj _) rfl inlX2 (by decide) q_8_0 rfl hdg kk
theorem fp_X2_15 (X : GX p s m meth c args cc nL ret RX2 E) (hH : HH E S s H locs) {j : Nat} (hj : j < 6) {v : Int32} (hdg : decode cc pc = .ok (.putfield 15, 3)) (kk : ∀ (H1 : Heap) (locs1 : List Loc), HH E (st S (20 + j) 0 v) s H1 locs1 → W p l e R s m args below meth c H1 locs1 cells slots Q (F0 m (pc + 3) ls rest)) : W p l e R s m args below meth c H locs cells slots Q (F0 m pc ls (.int v :: .ref (bb E (20 + j)) :: rest)) := r_put X hH (k := 0) (st S (20 + j) 0 v) (mk54 hj) (e_mk E hj _) rfl inlX2 tyX2_ok nmX2 (by decide) q_8_0 rfl rfl rfl rfl (by simp only [List.length_cons, List.length_nil]; decide) (by rw [e_mk E hj]; simp [st]) (fun a h => st_ne h) hdg kk
theorem fg_X2_19 (X : GX p s m meth c args cc nL ret RX2 E) (hH : HH E S s H locs) {j : Nat} (hj : j < 6) (hdg : decode cc pc = .ok (.getfield 19, 3)) (kk : W p l e R s m args below meth c H locs cells slots Q (F0 m (pc + 3) ls (.int (S (20 + j) 1) :: rest))) : W p l e R s m args below meth c H locs cells slots Q (F0 m pc ls (.ref (bb E (20 + j)) :: rest)) := r_get X hH (k := 1) (mk54 hj) (e_mk E hj _) rfl inlX2 (by decide) q_8_1 rfl hdg kk
theorem fp_X2_19 (X : GX p s m meth c args cc nL ret RX2 E) (hH : HH E S s H locs) {j : Nat} (hj : j < 6) {v : Int32} (hdg : decode cc pc = .ok (.putfield 19, 3)) (kk : ∀ (H1 : Heap) (locs1 : List Loc), HH E (st S (20 + j) 1 v) s H1 locs1 → W p l e R s m args below meth c H1 locs1 cells slots Q (F0 m (pc + 3) ls rest)) : W p l e R s m args below meth c H locs cells slots Q (F0 m pc ls (.int v :: .ref (bb E (20 + j)) :: rest)) := r_put X hH (k := 1) (st S (20 + j) 1 v) (mk54 hj) (e_mk E hj _) rfl inlX2 tyX2_ok nmX2 (by decide) q_8_1 rfl rfl rfl rfl (by simp only [List.length_cons, List.length_nil]; decide) (by rw [e_mk E hj]; simp [st]) (fun a h => st_ne h) hdg kk
theorem fg_X2_22 (X : GX p s m meth c args cc nL ret RX2 E) (hH : HH E S s H locs) {j : Nat} (hj : j < 6) (hdg : decode cc pc = .ok (.getfield 22, 3)) (kk : W p l e R s m args below meth c H locs cells slots Q (F0 m (pc + 3) ls (.int (S (20 + j) 2) :: rest))) : W p l e R s m args below meth c H locs cells slots Q (F0 m pc ls (.ref (bb E (20 + j)) :: rest)) := r_get X hH (k := 2) (mk54 hj) (e_mk E hj _) rfl inlX2 (by decide) q_8_2 rfl hdg kk
theorem fp_X2_22 (X : GX p s m meth c args cc nL ret RX2 E) (hH : HH E S s H locs) {j : Nat} (hj : j < 6) {v : Int32} (hdg : decode cc pc = .ok (.putfield 22, 3)) (kk : ∀ (H1 : Heap) (locs1 : List Loc), HH E (st S (20 + j) 2 v) s H1 locs1 → W p l e R s m args below meth c H1 locs1 cells slots Q (F0 m (pc + 3) ls rest)) : W p l e R s m args below meth c H locs cells slots Q (F0 m pc ls (.int v :: .ref (bb E (20 + j)) :: rest)) := r_put X hH (k := 2) (st S (20 + j) 2 v) (mk54 hj) (e_mk E hj _) rfl inlX2 tyX2_ok nmX2 (by decide) q_8_2 rfl rfl rfl rfl (by simp only [List.length_cons, List.length_nil]; decide) (by rw [e_mk E hj]; simp [st]) (fun a h => st_ne h) hdg kk
theorem fg_X3_12 (X : GX p s m meth c args cc nL ret RX3 E) (hH : HH E S s H locs) (hdg : decode cc pc = .ok (.getfield 12, 3)) (kk : W p l e R s m args below meth c H locs cells slots Q (F0 m (pc + 3) ls (.ref (bb E 5) :: rest))) : W p l e R s m args below meth c H locs cells slots Q (F0 m pc ls (.ref (bb E 4) :: rest)) := r_get X hH (k := 0) (by decide) (e_4 E _) rfl inlX3 (by decide) q_3_1 rfl hdg kk
theorem fg_X3_18 (X : GX p s m meth c args cc nL ret RX3 E) (hH : HH E S s H locs) (hdg : decode cc pc = .ok (.getfield 18, 3)) (kk : W p l e R s m args below meth c H locs cells slots Q (F0 m (pc + 3) ls (.ref (bb E (20 + (3 + (S 4 2).toNatClampNeg))) :: rest))) : W p l e R s m args below meth c H locs cells slots Q (F0 m pc ls (.ref (bb E 4) :: rest)) := r_get X hH (k := 2) (by decide) (e_4 E _) rfl inlX3 (by decide) q_3_2 rfl hdg kk
theorem fp_X3_18 (X : GX p s m meth c args cc nL ret RX3 E) (hH : HH E S s H locs) {v : Int32} (hdg : decode cc pc = .ok (.putfield 18, 3)) (kk : ∀ (H1 : Heap) (locs1 : List Loc), HH E (st S 4 2 v) s H1 locs1 → W p l e R s m args below meth c H1 locs1 cells slots Q (F0 m (pc + 3) ls rest)) : W p l e R s m args below meth c H locs cells slots Q (F0 m pc ls (.ref (bb E (20 + (3 + v.toNatClampNeg))) :: .ref (bb E 4) :: rest)) := r_put X hH (k := 2) (st S 4 2 v) (by decide) (e_4 E _) rfl inlX3 tyX3_ok nmX3 (by decide) q_3_2 rfl rfl rfl rfl (by simp only [List.length_cons, List.length_nil]; decide) (by rw [e_4]; simp [st]) (fun a h => st_ne h) hdg kk
theorem fg_X3_22 (X : GX p s m meth c args cc nL ret RX3 E) (hH : HH E S s H locs) (hdg : decode cc pc = .ok (.getfield 22, 3)) (kk : W p l e R s m args below meth c H locs cells slots Q (F0 m (pc + 3) ls (.int (S 4 3) :: rest))) : W p l e R s m args below meth c H locs cells slots Q (F0 m pc ls (.ref (bb E 4) :: rest)) := r_get X hH (k := 3) (by decide) (e_4 E _) rfl inlX3 (by decide) q_5_22 rfl hdg kk
theorem fp_X3_22 (X : GX p s m meth c args cc nL ret RX3 E) (hH : HH E S s H locs) {v : Int32} (hdg : decode cc pc = .ok (.putfield 22, 3)) (kk : ∀ (H1 : Heap) (locs1 : List Loc), HH E (st S 4 3 v) s H1 locs1 → W p l e R s m args below meth c H1 locs1 cells slots Q (F0 m (pc + 3) ls rest)) : W p l e R s m args below meth c H locs cells slots Q (F0 m pc ls (.int v :: .ref (bb E 4) :: rest)) := r_put X hH (k := 3) (st S 4 3 v) (by decide) (e_4 E _) rfl inlX3 tyX3_ok nmX3 (by decide) q_5_22 rfl rfl rfl rfl (by simp only [List.length_cons, List.length_nil]; decide) (by rw [e_4]; simp [st]) (fun a h => st_ne h) hdg kk
theorem fg_X3_26 (X : GX p s m meth c args cc nL ret RX3 E) (hH : HH E S s H locs) (hdg : decode cc pc = .ok (.getfield 26, 3)) (kk : W p l e R s m args below meth c H locs cells slots Q (F0 m (pc + 3) ls (.int (S 4 1) :: rest))) : W p l e R s m args below meth c H locs cells slots Q (F0 m pc ls (.ref (bb E 4) :: rest)) := r_get X hH (k := 1) (by decide) (e_4 E _) rfl inlX3 (by decide) q_5_23 rfl hdg kk
theorem fp_X3_26 (X : GX p s m meth c args cc nL ret RX3 E) (hH : HH E S s H locs) {v : Int32} (hdg : decode cc pc = .ok (.putfield 26, 3)) (kk : ∀ (H1 : Heap) (locs1 : List Loc), HH E (st S 4 1 v) s H1 locs1 → W p l e R s m args below meth c H1 locs1 cells slots Q (F0 m (pc + 3) ls rest)) : W p l e R s m args below meth c H locs cells slots Q (F0 m pc ls (.int v :: .ref (bb E 4) :: rest)) := r_put X hH (k := 1) (st S 4 1 v) (by decide) (e_4 E _) rfl inlX3 tyX3_ok nmX3 (by decide) q_5_23 rfl rfl rfl rfl (by simp only [List.length_cons, List.length_nil]; decide) (by rw [e_4]; simp [st]) (fun a h => st_ne h) hdg kk
theorem fg_X3_29 (X : GX p s m meth c args cc nL ret RX3 E) (hH : HH E S s H locs) {j : Nat} (hj : j < 4) (hdg : decode cc pc = .ok (.getfield 29, 3)) (kk : W p l e R s m args below meth c H locs cells slots Q (F0 m (pc + 3) ls (.ref (bb E (16 + j)) :: rest))) : W p l e R s m args below meth c H locs cells slots Q (F0 m pc ls (.ref (bb E (12 + j)) :: rest)) := r_get X hH (k := 2) (sh54 hj) (e_sh E hj _) rfl inlX5 (by decide) q_6_0 rfl hdg kk
theorem fg_X3_58 (X : GX p s m meth c args cc nL ret RX3 E) (hH : HH E S s H locs) {j : Nat} (hj : j < 6) (hdg : decode cc pc = .ok (.getfield 58, 3)) (kk : W p l e R s m args below meth c H locs cells slots Q (F0 m (pc + 3) ls (.int (S (20 + j) 2) :: rest))) : W p l e R s m args below meth c H locs cells slots Q (F0 m pc ls (.ref (bb E (20 + j)) :: rest)) := r_get X hH (k := 2) (mk54 hj) (e_mk E hj _) rfl inlX2 (by decide) q_6_13 rfl hdg kk
theorem fp_X3_58 (X : GX p s m meth c args cc nL ret RX3 E) (hH : HH E S s H locs) {j : Nat} (hj : j < 6) {v : Int32} (hdg : decode cc pc = .ok (.putfield 58, 3)) (kk : ∀ (H1 : Heap) (locs1 : List Loc), HH E (st S (20 + j) 2 v) s H1 locs1 → W p l e R s m args below meth c H1 locs1 cells slots Q (F0 m (pc + 3) ls rest)) : W p l e R s m args below meth c H locs cells slots Q (F0 m pc ls (.int v :: .ref (bb E (20 + j)) :: rest)) := r_put X hH (k := 2) (st S (20 + j) 2 v) (mk54 hj) (e_mk E hj _) rfl inlX2 tyX2_ok nmX2 (by decide) q_6_13 rfl rfl rfl rfl (by simp only [List.length_cons, List.length_nil]; decide) (by rw [e_mk E hj]; simp [st]) (fun a h => st_ne h) hdg kk
theorem fp_X3_61 (X : GX p s m meth c args cc nL ret RX3 E) (hH : HH E S s H locs) {j : Nat} (hj : j < 6) {v : Int32} (hdg : decode cc pc = .ok (.putfield 61, 3)) (kk : ∀ (H1 : Heap) (locs1 : List Loc), HH E (st S (20 + j) 0 v) s H1 locs1 → W p l e R s m args below meth c H1 locs1 cells slots Q (F0 m (pc + 3) ls rest)) : W p l e R s m args below meth c H locs cells slots Q (F0 m pc ls (.int v :: .ref (bb E (20 + j)) :: rest)) := r_put X hH (k := 0) (st S (20 + j) 0 v) (mk54 hj) (e_mk E hj _) rfl inlX2 tyX2_ok nmX2 (by decide) q_6_18 rfl rfl rfl rfl (by simp only [List.length_cons, List.length_nil]; decide) (by rw [e_mk E hj]; simp [st]) (fun a h => st_ne h) hdg kk
theorem fp_X3_64 (X : GX p s m meth c args cc nL ret RX3 E) (hH : HH E S s H locs) {j : Nat} (hj : j < 6) {v : Int32} (hdg : decode cc pc = .ok (.putfield 64, 3)) (kk : ∀ (H1 : Heap) (locs1 : List Loc), HH E (st S (20 + j) 1 v) s H1 locs1 → W p l e R s m args below meth c H1 locs1 cells slots Q (F0 m (pc + 3) ls rest)) : W p l e R s m args below meth c H locs cells slots Q (F0 m pc ls (.int v :: .ref (bb E (20 + j)) :: rest)) := r_put X hH (k := 1) (st S (20 + j) 1 v) (mk54 hj) (e_mk E hj _) rfl inlX2 tyX2_ok nmX2 (by decide) q_6_23 rfl rfl rfl rfl (by simp only [List.length_cons, List.length_nil]; decide) (by rw [e_mk E hj]; simp [st]) (fun a h => st_ne h) hdg kk
theorem fg_X3_71 (X : GX p s m meth c args cc nL ret RX3 E) (hH : HH E S s H locs) {j : Nat} (hj : j < 6) (hdg : decode cc pc = .ok (.getfield 71, 3)) (kk : W p l e R s m args below meth c H locs cells slots Q (F0 m (pc + 3) ls (.ref (bb E (26 + j)) :: rest))) : W p l e R s m args below meth c H locs cells slots Q (F0 m pc ls (.ref (bb E (20 + j)) :: rest)) := r_get X hH (k := 3) (mk54 hj) (e_mk E hj _) rfl inlX2 (by decide) q_7_4 rfl hdg kk
theorem fg_X4_11 (X : GX p s m meth c args cc nL ret RX4 E) (hH : HH E S s H locs) (hdg : decode cc pc = .ok (.getfield 11, 3)) (kk : W p l e R s m args below meth c H locs cells slots Q (F0 m (pc + 3) ls (.ref (bb E 7) :: rest))) : W p l e R s m args below meth c H locs cells slots Q (F0 m pc ls (.ref (bb E 6) :: rest)) := r_get X hH (k := 0) (by decide) (e_6 E _) rfl inlX4 (by decide) q_3_6 rfl hdg kk
theorem fg_X4_17 (X : GX p s m meth c args cc nL ret RX4 E) (hH : HH E S s H locs) (hdg : decode cc pc = .ok (.getfield 17, 3)) (kk : W p l e R s m args below meth c H locs cells slots Q (F0 m (pc + 3) ls (.ref (bb E 8) :: rest))) : W p l e R s m args below meth c H locs cells slots Q (F0 m pc ls (.ref (bb E 6) :: rest)) := r_get X hH (k := 1) (by decide) (e_6 E _) rfl inlX4 (by decide) q_3_7 rfl hdg kk
theorem fg_X4_24 (X : GX p s m meth c args cc nL ret RX4 E) (hH : HH E S s H locs) (hdg : decode cc pc = .ok (.getfield 24, 3)) (kk : W p l e R s m args below meth c H locs cells slots Q (F0 m (pc + 3) ls (.int (S 6 2) :: rest))) : W p l e R s m args below meth c H locs cells slots Q (F0 m pc ls (.ref (bb E 6) :: rest)) := r_get X hH (k := 2) (by decide) (e_6 E _) rfl inlX4 (by decide) q_19_18 rfl hdg kk
theorem fp_X4_24 (X : GX p s m meth c args cc nL ret RX4 E) (hH : HH E S s H locs) {v : Int32} (hdg : decode cc pc = .ok (.putfield 24, 3)) (kk : ∀ (H1 : Heap) (locs1 : List Loc), HH E (st S 6 2 v) s H1 locs1 → W p l e R s m args below meth c H1 locs1 cells slots Q (F0 m (pc + 3) ls rest)) : W p l e R s m args below meth c H locs cells slots Q (F0 m pc ls (.int v :: .ref (bb E 6) :: rest)) := r_put X hH (k := 2) (st S 6 2 v) (by decide) (e_6 E _) rfl inlX4 tyX4_ok nmX4 (by decide) q_19_18 rfl rfl rfl rfl (by simp only [List.length_cons, List.length_nil]; decide) (by rw [e_6]; simp [st]) (fun a h => st_ne h) hdg kk
theorem fg_X5_9 (X : GX p s m meth c args cc nL ret RX5 E) (hH : HH E S s H locs) {j : Nat} (hj : j < 4) (hdg : decode cc pc = .ok (.getfield 9, 3)) (kk : W p l e R s m args below meth c H locs cells slots Q (F0 m (pc + 3) ls (.int (S (12 + j) 0) :: rest))) : W p l e R s m args below meth c H locs cells slots Q (F0 m pc ls (.ref (bb E (12 + j)) :: rest)) := r_get X hH (k := 0) (sh54 hj) (e_sh E hj _) rfl inlX5 (by decide) q_3_11 rfl hdg kk
theorem fp_X5_9 (X : GX p s m meth c args cc nL ret RX5 E) (hH : HH E S s H locs) {j : Nat} (hj : j < 4) {v : Int32} (hdg : decode cc pc = .ok (.putfield 9, 3)) (kk : ∀ (H1 : Heap) (locs1 : List Loc), HH E (st S (12 + j) 0 v) s H1 locs1 → W p l e R s m args below meth c H1 locs1 cells slots Q (F0 m (pc + 3) ls rest)) : W p l e R s m args below meth c H locs cells slots Q (F0 m pc ls (.int v :: .ref (bb E (12 + j)) :: rest)) := r_put X hH (k := 0) (st S (12 + j) 0 v) (sh54 hj) (e_sh E hj _) rfl inlX5 tyX5_ok nmX5 (by decide) q_3_11 rfl rfl rfl rfl (by simp only [List.length_cons, List.length_nil]; decide) (by rw [e_sh E hj]; simp [st]) (fun a h => st_ne h) hdg kk
theorem fg_X5_15 (X : GX p s m meth c args cc nL ret RX5 E) (hH : HH E S s H locs) {j : Nat} (hj : j < 4) (hdg : decode cc pc = .ok (.getfield 15, 3)) (kk : W p l e R s m args below meth c H locs cells slots Q (F0 m (pc + 3) ls (.ref (bb E (16 + j)) :: rest))) : W p l e R s m args below meth c H locs cells slots Q (F0 m pc ls (.ref (bb E (12 + j)) :: rest)) := r_get X hH (k := 2) (sh54 hj) (e_sh E hj _) rfl inlX5 (by decide) q_3_12 rfl hdg kk
theorem fg_X5_19 (X : GX p s m meth c args cc nL ret RX5 E) (hH : HH E S s H locs) {j : Nat} (hj : j < 4) (hdg : decode cc pc = .ok (.getfield 19, 3)) (kk : W p l e R s m args below meth c H locs cells slots Q (F0 m (pc + 3) ls (.int (S (12 + j) 1) :: rest))) : W p l e R s m args below meth c H locs cells slots Q (F0 m pc ls (.ref (bb E (12 + j)) :: rest)) := r_get X hH (k := 1) (sh54 hj) (e_sh E hj _) rfl inlX5 (by decide) q_5_13 rfl hdg kk
theorem fp_X5_19 (X : GX p s m meth c args cc nL ret RX5 E) (hH : HH E S s H locs) {j : Nat} (hj : j < 4) {v : Int32} (hdg : decode cc pc = .ok (.putfield 19, 3)) (kk : ∀ (H1 : Heap) (locs1 : List Loc), HH E (st S (12 + j) 1 v) s H1 locs1 → W p l e R s m args below meth c H1 locs1 cells slots Q (F0 m (pc + 3) ls rest)) : W p l e R s m args below meth c H locs cells slots Q (F0 m pc ls (.int v :: .ref (bb E (12 + j)) :: rest)) := r_put X hH (k := 1) (st S (12 + j) 1 v) (sh54 hj) (e_sh E hj _) rfl inlX5 tyX5_ok nmX5 (by decide) q_5_13 rfl rfl rfl rfl (by simp only [List.length_cons, List.length_nil]; decide) (by rw [e_sh E hj]; simp [st]) (fun a h => st_ne h) hdg kk
theorem fg_X6_12 (X : GX p s m meth c args cc nL ret RX6 E) (hH : HH E S s H locs) (hdg : decode cc pc = .ok (.getfield 12, 3)) (kk : W p l e R s m args below meth c H locs cells slots Q (F0 m (pc + 3) ls (.ref (bb E 1) :: rest))) : W p l e R s m args below meth c H locs cells slots Q (F0 m pc ls (.ref (bb E 0) :: rest)) := r_get X hH (k := 0) (by decide) (e_0 E _) rfl inlX6 (by decide) q_1_15 rfl hdg kk
theorem fg_X6_21 (X : GX p s m meth c args cc nL ret RX6 E) (hH : HH E S s H locs) (hdg : decode cc pc = .ok (.getfield 21, 3)) (kk : W p l e R s m args below meth c H locs cells slots Q (F0 m (pc + 3) ls (.ref (bb E 4) :: rest))) : W p l e R s m args below meth c H locs cells slots Q (F0 m pc ls (.ref (bb E 0) :: rest)) := r_get X hH (k := 1) (by decide) (e_0 E _) rfl inlX6 (by decide) q_1_19 rfl hdg kk
theorem fg_X6_28 (X : GX p s m meth c args cc nL ret RX6 E) (hH : HH E S s H locs) (hdg : decode cc pc = .ok (.getfield 28, 3)) (kk : W p l e R s m args below meth c H locs cells slots Q (F0 m (pc + 3) ls (.ref (bb E 6) :: rest))) : W p l e R s m args below meth c H locs cells slots Q (F0 m pc ls (.ref (bb E 0) :: rest)) := r_get X hH (k := 2) (by decide) (e_0 E _) rfl inlX6 (by decide) q_1_23 rfl hdg kk
theorem fg_X6_35 (X : GX p s m meth c args cc nL ret RX6 E) (hH : HH E S s H locs) (hdg : decode cc pc = .ok (.getfield 35, 3)) (kk : W p l e R s m args below meth c H locs cells slots Q (F0 m (pc + 3) ls (.ref (bb E 9) :: rest))) : W p l e R s m args below meth c H locs cells slots Q (F0 m pc ls (.ref (bb E 0) :: rest)) := r_get X hH (k := 3) (by decide) (e_0 E _) rfl inlX6 (by decide) q_2_3 rfl hdg kk
theorem fg_X6_39 (X : GX p s m meth c args cc nL ret RX6 E) (hH : HH E S s H locs) (hdg : decode cc pc = .ok (.getfield 39, 3)) (kk : W p l e R s m args below meth c H locs cells slots Q (F0 m (pc + 3) ls (.ref (bb E 10) :: rest))) : W p l e R s m args below meth c H locs cells slots Q (F0 m pc ls (.ref (bb E 0) :: rest)) := r_get X hH (k := 4) (by decide) (e_0 E _) rfl inlX6 (by decide) q_2_5 rfl hdg kk
theorem fg_X6_43 (X : GX p s m meth c args cc nL ret RX6 E) (hH : HH E S s H locs) (hdg : decode cc pc = .ok (.getfield 43, 3)) (kk : W p l e R s m args below meth c H locs cells slots Q (F0 m (pc + 3) ls (.ref (bb E 11) :: rest))) : W p l e R s m args below meth c H locs cells slots Q (F0 m pc ls (.ref (bb E 0) :: rest)) := r_get X hH (k := 5) (by decide) (e_0 E _) rfl inlX6 (by decide) q_2_6 rfl hdg kk
theorem fg_X6_48 (X : GX p s m meth c args cc nL ret RX6 E) (hH : HH E S s H locs) (hdg : decode cc pc = .ok (.getfield 48, 3)) (kk : W p l e R s m args below meth c H locs cells slots Q (F0 m (pc + 3) ls (.int (S 0 7) :: rest))) : W p l e R s m args below meth c H locs cells slots Q (F0 m pc ls (.ref (bb E 0) :: rest)) := r_get X hH (k := 7) (by decide) (e_0 E _) rfl inlX6 (by decide) q_2_7 rfl hdg kk
theorem fp_X6_48 (X : GX p s m meth c args cc nL ret RX6 E) (hH : HH E S s H locs) {v : Int32} (hdg : decode cc pc = .ok (.putfield 48, 3)) (kk : ∀ (H1 : Heap) (locs1 : List Loc), HH E (st S 0 7 v) s H1 locs1 → W p l e R s m args below meth c H1 locs1 cells slots Q (F0 m (pc + 3) ls rest)) : W p l e R s m args below meth c H locs cells slots Q (F0 m pc ls (.int v :: .ref (bb E 0) :: rest)) := r_put X hH (k := 7) (st S 0 7 v) (by decide) (e_0 E _) rfl inlX6 tyX6_ok nmX6 (by decide) q_2_7 rfl rfl rfl rfl (by simp only [List.length_cons, List.length_nil]; decide) (by rw [e_0]; simp [st]) (fun a h => st_ne h) hdg kk
theorem fg_X6_52 (X : GX p s m meth c args cc nL ret RX6 E) (hH : HH E S s H locs) (hdg : decode cc pc = .ok (.getfield 52, 3)) (kk : W p l e R s m args below meth c H locs cells slots Q (F0 m (pc + 3) ls (.int (S 0 10) :: rest))) : W p l e R s m args below meth c H locs cells slots Q (F0 m pc ls (.ref (bb E 0) :: rest)) := r_get X hH (k := 10) (by decide) (e_0 E _) rfl inlX6 (by decide) q_2_8 rfl hdg kk
theorem fp_X6_52 (X : GX p s m meth c args cc nL ret RX6 E) (hH : HH E S s H locs) {v : Int32} (hdg : decode cc pc = .ok (.putfield 52, 3)) (kk : ∀ (H1 : Heap) (locs1 : List Loc), HH E (st S 0 10 v) s H1 locs1 → W p l e R s m args below meth c H1 locs1 cells slots Q (F0 m (pc + 3) ls rest)) : W p l e R s m args below meth c H locs cells slots Q (F0 m pc ls (.int v :: .ref (bb E 0) :: rest)) := r_put X hH (k := 10) (st S 0 10 v) (by decide) (e_0 E _) rfl inlX6 tyX6_ok nmX6 (by decide) q_2_8 rfl rfl rfl rfl (by simp only [List.length_cons, List.length_nil]; decide) (by rw [e_0]; simp [st]) (fun a h => st_ne h) hdg kk
theorem fg_X6_79 (X : GX p s m meth c args cc nL ret RX6 E) (hH : HH E S s H locs) (hdg : decode cc pc = .ok (.getfield 79, 3)) (kk : W p l e R s m args below meth c H locs cells slots Q (F0 m (pc + 3) ls (.int (S 0 8) :: rest))) : W p l e R s m args below meth c H locs cells slots Q (F0 m pc ls (.ref (bb E 0) :: rest)) := r_get X hH (k := 8) (by decide) (e_0 E _) rfl inlX6 (by decide) q_4_19 rfl hdg kk
theorem fp_X6_79 (X : GX p s m meth c args cc nL ret RX6 E) (hH : HH E S s H locs) {v : Int32} (hdg : decode cc pc = .ok (.putfield 79, 3)) (kk : ∀ (H1 : Heap) (locs1 : List Loc), HH E (st S 0 8 v) s H1 locs1 → W p l e R s m args below meth c H1 locs1 cells slots Q (F0 m (pc + 3) ls rest)) : W p l e R s m args below meth c H locs cells slots Q (F0 m pc ls (.int v :: .ref (bb E 0) :: rest)) := r_put X hH (k := 8) (st S 0 8 v) (by decide) (e_0 E _) rfl inlX6 tyX6_ok nmX6 (by decide) q_4_19 rfl rfl rfl rfl (by simp only [List.length_cons, List.length_nil]; decide) (by rw [e_0]; simp [st]) (fun a h => st_ne h) hdg kk
theorem fg_X6_82 (X : GX p s m meth c args cc nL ret RX6 E) (hH : HH E S s H locs) (hdg : decode cc pc = .ok (.getfield 82, 3)) (kk : W p l e R s m args below meth c H locs cells slots Q (F0 m (pc + 3) ls (.int (S 0 6) :: rest))) : W p l e R s m args below meth c H locs cells slots Q (F0 m pc ls (.ref (bb E 0) :: rest)) := r_get X hH (k := 6) (by decide) (e_0 E _) rfl inlX6 (by decide) q_4_20 rfl hdg kk
theorem fp_X6_82 (X : GX p s m meth c args cc nL ret RX6 E) (hH : HH E S s H locs) {v : Int32} (hdg : decode cc pc = .ok (.putfield 82, 3)) (kk : ∀ (H1 : Heap) (locs1 : List Loc), HH E (st S 0 6 v) s H1 locs1 → W p l e R s m args below meth c H1 locs1 cells slots Q (F0 m (pc + 3) ls rest)) : W p l e R s m args below meth c H locs cells slots Q (F0 m pc ls (.int v :: .ref (bb E 0) :: rest)) := r_put X hH (k := 6) (st S 0 6 v) (by decide) (e_0 E _) rfl inlX6 tyX6_ok nmX6 (by decide) q_4_20 rfl rfl rfl rfl (by simp only [List.length_cons, List.length_nil]; decide) (by rw [e_0]; simp [st]) (fun a h => st_ne h) hdg kk
theorem fg_X6_85 (X : GX p s m meth c args cc nL ret RX6 E) (hH : HH E S s H locs) (hdg : decode cc pc = .ok (.getfield 85, 3)) (kk : W p l e R s m args below meth c H locs cells slots Q (F0 m (pc + 3) ls (.int (S 1 0) :: rest))) : W p l e R s m args below meth c H locs cells slots Q (F0 m pc ls (.ref (bb E 1) :: rest)) := r_get X hH (k := 0) (by decide) (e_1 E _) rfl inlX0 (by decide) q_4_21 rfl hdg kk
theorem fg_X6_92 (X : GX p s m meth c args cc nL ret RX6 E) (hH : HH E S s H locs) {j : Nat} (hj : j < 6) (hdg : decode cc pc = .ok (.getfield 92, 3)) (kk : W p l e R s m args below meth c H locs cells slots Q (F0 m (pc + 3) ls (.int (S (20 + j) 0) :: rest))) : W p l e R s m args below meth c H locs cells slots Q (F0 m pc ls (.ref (bb E (20 + j)) :: rest)) := r_get X hH (k := 0) (mk54 hj) (e_mk E hj _) rfl inlX2 (by decide) q_10_14 rfl hdg kk
theorem fg_X6_97 (X : GX p s m meth c args cc nL ret RX6 E) (hH : HH E S s H locs) {j : Nat} (hj : j < 6) (hdg : decode cc pc = .ok (.getfield 97, 3)) (kk : W p l e R s m args below meth c H locs cells slots Q (F0 m (pc + 3) ls (.int (S (20 + j) 1) :: rest))) : W p l e R s m args below meth c H locs cells slots Q (F0 m pc ls (.ref (bb E (20 + j)) :: rest)) := r_get X hH (k := 1) (mk54 hj) (e_mk E hj _) rfl inlX2 (by decide) q_10_15 rfl hdg kk
theorem fg_X6_104 (X : GX p s m meth c args cc nL ret RX6 E) (hH : HH E S s H locs) {j : Nat} (hj : j < 6) (hdg : decode cc pc = .ok (.getfield 104, 3)) (kk : W p l e R s m args below meth c H locs cells slots Q (F0 m (pc + 3) ls (.int (S (20 + j) 2) :: rest))) : W p l e R s m args below meth c H locs cells slots Q (F0 m pc ls (.ref (bb E (20 + j)) :: rest)) := r_get X hH (k := 2) (mk54 hj) (e_mk E hj _) rfl inlX2 (by decide) q_10_16 rfl hdg kk
theorem fg_X6_150 (X : GX p s m meth c args cc nL ret RX6 E) (hH : HH E S s H locs) {j : Nat} (hj : j < 4) (hdg : decode cc pc = .ok (.getfield 150, 3)) (kk : W p l e R s m args below meth c H locs cells slots Q (F0 m (pc + 3) ls (.ref (bb E (16 + j)) :: rest))) : W p l e R s m args below meth c H locs cells slots Q (F0 m pc ls (.ref (bb E (12 + j)) :: rest)) := r_get X hH (k := 2) (sh54 hj) (e_sh E hj _) rfl inlX5 (by decide) q_18_9 rfl hdg kk
theorem fg_X6_204 (X : GX p s m meth c args cc nL ret RX6 E) (hH : HH E S s H locs) {j : Nat} (hj : j < 4) (hdg : decode cc pc = .ok (.getfield 204, 3)) (kk : W p l e R s m args below meth c H locs cells slots Q (F0 m (pc + 3) ls (.int (S (12 + j) 0) :: rest))) : W p l e R s m args below meth c H locs cells slots Q (F0 m pc ls (.ref (bb E (12 + j)) :: rest)) := r_get X hH (k := 0) (sh54 hj) (e_sh E hj _) rfl inlX5 (by decide) q_27_14 rfl hdg kk
theorem fg_X6_234 (X : GX p s m meth c args cc nL ret RX6 E) (hH : HH E S s H locs) (hdg : decode cc pc = .ok (.getfield 234, 3)) (kk : W p l e R s m args below meth c H locs cells slots Q (F0 m (pc + 3) ls (.int (S 0 9) :: rest))) : W p l e R s m args below meth c H locs cells slots Q (F0 m pc ls (.ref (bb E 0) :: rest)) := r_get X hH (k := 9) (by decide) (e_0 E _) rfl inlX6 (by decide) q_29_17 rfl hdg kk
theorem fp_X6_234 (X : GX p s m meth c args cc nL ret RX6 E) (hH : HH E S s H locs) {v : Int32} (hdg : decode cc pc = .ok (.putfield 234, 3)) (kk : ∀ (H1 : Heap) (locs1 : List Loc), HH E (st S 0 9 v) s H1 locs1 → W p l e R s m args below meth c H1 locs1 cells slots Q (F0 m (pc + 3) ls rest)) : W p l e R s m args below meth c H locs cells slots Q (F0 m pc ls (.int v :: .ref (bb E 0) :: rest)) := r_put X hH (k := 9) (st S 0 9 v) (by decide) (e_0 E _) rfl inlX6 tyX6_ok nmX6 (by decide) q_29_17 rfl rfl rfl rfl (by simp only [List.length_cons, List.length_nil]; decide) (by rw [e_0]; simp [st]) (fun a h => st_ne h) hdg kk
theorem fg_X7_9 (X : GX p s m meth c args cc nL ret RX7 E) (hH : HH E S s H locs) (hdg : decode cc pc = .ok (.getfield 9, 3)) (kk : W p l e R s m args below meth c H locs cells slots Q (F0 m (pc + 3) ls (.ref (bb E 33) :: rest))) : W p l e R s m args below meth c H locs cells slots Q (F0 m pc ls (.ref (bb E 32) :: rest)) := r_get X hH (k := 2) (by decide) (e_32 E _) rfl inlX7 (by decide) q_3_17 rfl hdg kk
theorem fg_X7_13 (X : GX p s m meth c args cc nL ret RX7 E) (hH : HH E S s H locs) (hdg : decode cc pc = .ok (.getfield 13, 3)) (kk : W p l e R s m args below meth c H locs cells slots Q (F0 m (pc + 3) ls (.ref (bb E 34) :: rest))) : W p l e R s m args below meth c H locs cells slots Q (F0 m pc ls (.ref (bb E 32) :: rest)) := r_get X hH (k := 3) (by decide) (e_32 E _) rfl inlX7 (by decide) q_3_18 rfl hdg kk
theorem fg_X7_16 (X : GX p s m meth c args cc nL ret RX7 E) (hH : HH E S s H locs) (hdg : decode cc pc = .ok (.getfield 16, 3)) (kk : W p l e R s m args below meth c H locs cells slots Q (F0 m (pc + 3) ls (.ref (bb E 35) :: rest))) : W p l e R s m args below meth c H locs cells slots Q (F0 m pc ls (.ref (bb E 32) :: rest)) := r_get X hH (k := 4) (by decide) (e_32 E _) rfl inlX7 (by decide) q_3_19 rfl hdg kk
theorem fg_X7_19 (X : GX p s m meth c args cc nL ret RX7 E) (hH : HH E S s H locs) (hdg : decode cc pc = .ok (.getfield 19, 3)) (kk : W p l e R s m args below meth c H locs cells slots Q (F0 m (pc + 3) ls (.ref (bb E 36) :: rest))) : W p l e R s m args below meth c H locs cells slots Q (F0 m pc ls (.ref (bb E 32) :: rest)) := r_get X hH (k := 8) (by decide) (e_32 E _) rfl inlX7 (by decide) q_3_20 rfl hdg kk
theorem fg_X7_22 (X : GX p s m meth c args cc nL ret RX7 E) (hH : HH E S s H locs) (hdg : decode cc pc = .ok (.getfield 22, 3)) (kk : W p l e R s m args below meth c H locs cells slots Q (F0 m (pc + 3) ls (.ref (bb E 37) :: rest))) : W p l e R s m args below meth c H locs cells slots Q (F0 m pc ls (.ref (bb E 32) :: rest)) := r_get X hH (k := 9) (by decide) (e_32 E _) rfl inlX7 (by decide) q_3_21 rfl hdg kk
theorem fg_X7_25 (X : GX p s m meth c args cc nL ret RX7 E) (hH : HH E S s H locs) (hdg : decode cc pc = .ok (.getfield 25, 3)) (kk : W p l e R s m args below meth c H locs cells slots Q (F0 m (pc + 3) ls (.ref (bb E 38) :: rest))) : W p l e R s m args below meth c H locs cells slots Q (F0 m pc ls (.ref (bb E 32) :: rest)) := r_get X hH (k := 10) (by decide) (e_32 E _) rfl inlX7 (by decide) q_3_22 rfl hdg kk
theorem fg_X7_28 (X : GX p s m meth c args cc nL ret RX7 E) (hH : HH E S s H locs) (hdg : decode cc pc = .ok (.getfield 28, 3)) (kk : W p l e R s m args below meth c H locs cells slots Q (F0 m (pc + 3) ls (.ref (bb E 39) :: rest))) : W p l e R s m args below meth c H locs cells slots Q (F0 m pc ls (.ref (bb E 32) :: rest)) := r_get X hH (k := 11) (by decide) (e_32 E _) rfl inlX7 (by decide) q_3_23 rfl hdg kk
theorem fg_X7_31 (X : GX p s m meth c args cc nL ret RX7 E) (hH : HH E S s H locs) (hdg : decode cc pc = .ok (.getfield 31, 3)) (kk : W p l e R s m args below meth c H locs cells slots Q (F0 m (pc + 3) ls (.ref (bb E 40) :: rest))) : W p l e R s m args below meth c H locs cells slots Q (F0 m pc ls (.ref (bb E 32) :: rest)) := r_get X hH (k := 14) (by decide) (e_32 E _) rfl inlX7 (by decide) q_4_0 rfl hdg kk
theorem fg_X7_34 (X : GX p s m meth c args cc nL ret RX7 E) (hH : HH E S s H locs) (hdg : decode cc pc = .ok (.getfield 34, 3)) (kk : W p l e R s m args below meth c H locs cells slots Q (F0 m (pc + 3) ls (.ref (bb E 41) :: rest))) : W p l e R s m args below meth c H locs cells slots Q (F0 m pc ls (.ref (bb E 32) :: rest)) := r_get X hH (k := 15) (by decide) (e_32 E _) rfl inlX7 (by decide) q_4_1 rfl hdg kk
theorem fg_X7_37 (X : GX p s m meth c args cc nL ret RX7 E) (hH : HH E S s H locs) (hdg : decode cc pc = .ok (.getfield 37, 3)) (kk : W p l e R s m args below meth c H locs cells slots Q (F0 m (pc + 3) ls (.ref (bb E 42) :: rest))) : W p l e R s m args below meth c H locs cells slots Q (F0 m pc ls (.ref (bb E 32) :: rest)) := r_get X hH (k := 16) (by decide) (e_32 E _) rfl inlX7 (by decide) q_4_2 rfl hdg kk
theorem fg_X7_40 (X : GX p s m meth c args cc nL ret RX7 E) (hH : HH E S s H locs) (hdg : decode cc pc = .ok (.getfield 40, 3)) (kk : W p l e R s m args below meth c H locs cells slots Q (F0 m (pc + 3) ls (.ref (bb E 43) :: rest))) : W p l e R s m args below meth c H locs cells slots Q (F0 m pc ls (.ref (bb E 32) :: rest)) := r_get X hH (k := 17) (by decide) (e_32 E _) rfl inlX7 (by decide) q_4_3 rfl hdg kk
theorem fg_X7_43 (X : GX p s m meth c args cc nL ret RX7 E) (hH : HH E S s H locs) (hdg : decode cc pc = .ok (.getfield 43, 3)) (kk : W p l e R s m args below meth c H locs cells slots Q (F0 m (pc + 3) ls (.ref (bb E 44) :: rest))) : W p l e R s m args below meth c H locs cells slots Q (F0 m pc ls (.ref (bb E 32) :: rest)) := r_get X hH (k := 18) (by decide) (e_32 E _) rfl inlX7 (by decide) q_4_4 rfl hdg kk
theorem fg_X7_46 (X : GX p s m meth c args cc nL ret RX7 E) (hH : HH E S s H locs) (hdg : decode cc pc = .ok (.getfield 46, 3)) (kk : W p l e R s m args below meth c H locs cells slots Q (F0 m (pc + 3) ls (.ref (bb E 45) :: rest))) : W p l e R s m args below meth c H locs cells slots Q (F0 m pc ls (.ref (bb E 32) :: rest)) := r_get X hH (k := 19) (by decide) (e_32 E _) rfl inlX7 (by decide) q_4_5 rfl hdg kk
theorem fg_X7_49 (X : GX p s m meth c args cc nL ret RX7 E) (hH : HH E S s H locs) (hdg : decode cc pc = .ok (.getfield 49, 3)) (kk : W p l e R s m args below meth c H locs cells slots Q (F0 m (pc + 3) ls (.ref (bb E 46) :: rest))) : W p l e R s m args below meth c H locs cells slots Q (F0 m pc ls (.ref (bb E 32) :: rest)) := r_get X hH (k := 23) (by decide) (e_32 E _) rfl inlX7 (by decide) q_4_6 rfl hdg kk
theorem fg_X7_52 (X : GX p s m meth c args cc nL ret RX7 E) (hH : HH E S s H locs) (hdg : decode cc pc = .ok (.getfield 52, 3)) (kk : W p l e R s m args below meth c H locs cells slots Q (F0 m (pc + 3) ls (.ref (bb E 47) :: rest))) : W p l e R s m args below meth c H locs cells slots Q (F0 m pc ls (.ref (bb E 32) :: rest)) := r_get X hH (k := 24) (by decide) (e_32 E _) rfl inlX7 (by decide) q_4_7 rfl hdg kk
theorem fg_X7_55 (X : GX p s m meth c args cc nL ret RX7 E) (hH : HH E S s H locs) (hdg : decode cc pc = .ok (.getfield 55, 3)) (kk : W p l e R s m args below meth c H locs cells slots Q (F0 m (pc + 3) ls (.ref (bb E 48) :: rest))) : W p l e R s m args below meth c H locs cells slots Q (F0 m pc ls (.ref (bb E 32) :: rest)) := r_get X hH (k := 25) (by decide) (e_32 E _) rfl inlX7 (by decide) q_4_8 rfl hdg kk
theorem fg_X7_59 (X : GX p s m meth c args cc nL ret RX7 E) (hH : HH E S s H locs) (hdg : decode cc pc = .ok (.getfield 59, 3)) (kk : W p l e R s m args below meth c H locs cells slots Q (F0 m (pc + 3) ls (.ref (bb E 49) :: rest))) : W p l e R s m args below meth c H locs cells slots Q (F0 m pc ls (.ref (bb E 32) :: rest)) := r_get X hH (k := 29) (by decide) (e_32 E _) rfl inlX7 (by decide) q_4_10 rfl hdg kk
theorem fg_X7_62 (X : GX p s m meth c args cc nL ret RX7 E) (hH : HH E S s H locs) (hdg : decode cc pc = .ok (.getfield 62, 3)) (kk : W p l e R s m args below meth c H locs cells slots Q (F0 m (pc + 3) ls (.ref (bb E 50) :: rest))) : W p l e R s m args below meth c H locs cells slots Q (F0 m pc ls (.ref (bb E 32) :: rest)) := r_get X hH (k := 30) (by decide) (e_32 E _) rfl inlX7 (by decide) q_4_11 rfl hdg kk
theorem fg_X7_65 (X : GX p s m meth c args cc nL ret RX7 E) (hH : HH E S s H locs) (hdg : decode cc pc = .ok (.getfield 65, 3)) (kk : W p l e R s m args below meth c H locs cells slots Q (F0 m (pc + 3) ls (.ref (bb E 51) :: rest))) : W p l e R s m args below meth c H locs cells slots Q (F0 m pc ls (.ref (bb E 32) :: rest)) := r_get X hH (k := 31) (by decide) (e_32 E _) rfl inlX7 (by decide) q_4_12 rfl hdg kk
theorem fg_X7_68 (X : GX p s m meth c args cc nL ret RX7 E) (hH : HH E S s H locs) (hdg : decode cc pc = .ok (.getfield 68, 3)) (kk : W p l e R s m args below meth c H locs cells slots Q (F0 m (pc + 3) ls (.ref (bb E 52) :: rest))) : W p l e R s m args below meth c H locs cells slots Q (F0 m pc ls (.ref (bb E 32) :: rest)) := r_get X hH (k := 33) (by decide) (e_32 E _) rfl inlX7 (by decide) q_4_13 rfl hdg kk
theorem fg_X7_71 (X : GX p s m meth c args cc nL ret RX7 E) (hH : HH E S s H locs) (hdg : decode cc pc = .ok (.getfield 71, 3)) (kk : W p l e R s m args below meth c H locs cells slots Q (F0 m (pc + 3) ls (.ref (bb E 53) :: rest))) : W p l e R s m args below meth c H locs cells slots Q (F0 m pc ls (.ref (bb E 32) :: rest)) := r_get X hH (k := 34) (by decide) (e_32 E _) rfl inlX7 (by decide) q_4_14 rfl hdg kk
theorem fg_X7_74 (X : GX p s m meth c args cc nL ret RX7 E) (hH : HH E S s H locs) (hdg : decode cc pc = .ok (.getfield 74, 3)) (kk : W p l e R s m args below meth c H locs cells slots Q (F0 m (pc + 3) ls (.int (S 32 0) :: rest))) : W p l e R s m args below meth c H locs cells slots Q (F0 m pc ls (.ref (bb E 32) :: rest)) := r_get X hH (k := 0) (by decide) (e_32 E _) rfl inlX7 (by decide) q_8_22 rfl hdg kk
theorem fp_X7_74 (X : GX p s m meth c args cc nL ret RX7 E) (hH : HH E S s H locs) {v : Int32} (hdg : decode cc pc = .ok (.putfield 74, 3)) (kk : ∀ (H1 : Heap) (locs1 : List Loc), HH E (st S 32 0 v) s H1 locs1 → W p l e R s m args below meth c H1 locs1 cells slots Q (F0 m (pc + 3) ls rest)) : W p l e R s m args below meth c H locs cells slots Q (F0 m pc ls (.int v :: .ref (bb E 32) :: rest)) := r_put X hH (k := 0) (st S 32 0 v) (by decide) (e_32 E _) rfl inlX7 tyX7_ok nmX7 (by decide) q_8_22 rfl rfl rfl rfl (by simp only [List.length_cons, List.length_nil]; decide) (by rw [e_32]; simp [st]) (fun a h => st_ne h) hdg kk
theorem fg_X7_84 (X : GX p s m meth c args cc nL ret RX7 E) (hH : HH E S s H locs) (hdg : decode cc pc = .ok (.getfield 84, 3)) (kk : W p l e R s m args below meth c H locs cells slots Q (F0 m (pc + 3) ls (.int (S 32 5) :: rest))) : W p l e R s m args below meth c H locs cells slots Q (F0 m pc ls (.ref (bb E 32) :: rest)) := r_get X hH (k := 5) (by decide) (e_32 E _) rfl inlX7 (by decide) q_9_1 rfl hdg kk
theorem fp_X7_84 (X : GX p s m meth c args cc nL ret RX7 E) (hH : HH E S s H locs) {v : Int32} (hdg : decode cc pc = .ok (.putfield 84, 3)) (kk : ∀ (H1 : Heap) (locs1 : List Loc), HH E (st S 32 5 v) s H1 locs1 → W p l e R s m args below meth c H1 locs1 cells slots Q (F0 m (pc + 3) ls rest)) : W p l e R s m args below meth c H locs cells slots Q (F0 m pc ls (.int v :: .ref (bb E 32) :: rest)) := r_put X hH (k := 5) (st S 32 5 v) (by decide) (e_32 E _) rfl inlX7 tyX7_ok nmX7 (by decide) q_9_1 rfl rfl rfl rfl (by simp only [List.length_cons, List.length_nil]; decide) (by rw [e_32]; simp [st]) (fun a h => st_ne h) hdg kk
theorem fg_X7_102 (X : GX p s m meth c args cc nL ret RX7 E) (hH : HH E S s H locs) (hdg : decode cc pc = .ok (.getfield 102, 3)) (kk : W p l e R s m args below meth c H locs cells slots Q (F0 m (pc + 3) ls (.int (S 32 12) :: rest))) : W p l e R s m args below meth c H locs cells slots Q (F0 m pc ls (.ref (bb E 32) :: rest)) := r_get X hH (k := 12) (by decide) (e_32 E _) rfl inlX7 (by decide) q_8_23 rfl hdg kk
theorem fp_X7_102 (X : GX p s m meth c args cc nL ret RX7 E) (hH : HH E S s H locs) {v : Int32} (hdg : decode cc pc = .ok (.putfield 102, 3)) (kk : ∀ (H1 : Heap) (locs1 : List Loc), HH E (st S 32 12 v) s H1 locs1 → W p l e R s m args below meth c H1 locs1 cells slots Q (F0 m (pc + 3) ls rest)) : W p l e R s m args below meth c H locs cells slots Q (F0 m pc ls (.int v :: .ref (bb E 32) :: rest)) := r_put X hH (k := 12) (st S 32 12 v) (by decide) (e_32 E _) rfl inlX7 tyX7_ok nmX7 (by decide) q_8_23 rfl rfl rfl rfl (by simp only [List.length_cons, List.length_nil]; decide) (by rw [e_32]; simp [st]) (fun a h => st_ne h) hdg kk
theorem fg_X7_108 (X : GX p s m meth c args cc nL ret RX7 E) (hH : HH E S s H locs) (hdg : decode cc pc = .ok (.getfield 108, 3)) (kk : W p l e R s m args below meth c H locs cells slots Q (F0 m (pc + 3) ls (.int (S 32 13) :: rest))) : W p l e R s m args below meth c H locs cells slots Q (F0 m pc ls (.ref (bb E 32) :: rest)) := r_get X hH (k := 13) (by decide) (e_32 E _) rfl inlX7 (by decide) q_9_0 rfl hdg kk
theorem fp_X7_108 (X : GX p s m meth c args cc nL ret RX7 E) (hH : HH E S s H locs) {v : Int32} (hdg : decode cc pc = .ok (.putfield 108, 3)) (kk : ∀ (H1 : Heap) (locs1 : List Loc), HH E (st S 32 13 v) s H1 locs1 → W p l e R s m args below meth c H1 locs1 cells slots Q (F0 m (pc + 3) ls rest)) : W p l e R s m args below meth c H locs cells slots Q (F0 m pc ls (.int v :: .ref (bb E 32) :: rest)) := r_put X hH (k := 13) (st S 32 13 v) (by decide) (e_32 E _) rfl inlX7 tyX7_ok nmX7 (by decide) q_9_0 rfl rfl rfl rfl (by simp only [List.length_cons, List.length_nil]; decide) (by rw [e_32]; simp [st]) (fun a h => st_ne h) hdg kk
theorem fg_X7_111 (X : GX p s m meth c args cc nL ret RX7 E) (hH : HH E S s H locs) (hdg : decode cc pc = .ok (.getfield 111, 3)) (kk : W p l e R s m args below meth c H locs cells slots Q (F0 m (pc + 3) ls (.int (S 32 7) :: rest))) : W p l e R s m args below meth c H locs cells slots Q (F0 m pc ls (.ref (bb E 32) :: rest)) := r_get X hH (k := 7) (by decide) (e_32 E _) rfl inlX7 (by decide) q_9_2 rfl hdg kk
theorem fp_X7_111 (X : GX p s m meth c args cc nL ret RX7 E) (hH : HH E S s H locs) {v : Int32} (hdg : decode cc pc = .ok (.putfield 111, 3)) (kk : ∀ (H1 : Heap) (locs1 : List Loc), HH E (st S 32 7 v) s H1 locs1 → W p l e R s m args below meth c H1 locs1 cells slots Q (F0 m (pc + 3) ls rest)) : W p l e R s m args below meth c H locs cells slots Q (F0 m pc ls (.int v :: .ref (bb E 32) :: rest)) := r_put X hH (k := 7) (st S 32 7 v) (by decide) (e_32 E _) rfl inlX7 tyX7_ok nmX7 (by decide) q_9_2 rfl rfl rfl rfl (by simp only [List.length_cons, List.length_nil]; decide) (by rw [e_32]; simp [st]) (fun a h => st_ne h) hdg kk
theorem fg_X7_114 (X : GX p s m meth c args cc nL ret RX7 E) (hH : HH E S s H locs) (hdg : decode cc pc = .ok (.getfield 114, 3)) (kk : W p l e R s m args below meth c H locs cells slots Q (F0 m (pc + 3) ls (.int (S 32 6) :: rest))) : W p l e R s m args below meth c H locs cells slots Q (F0 m pc ls (.ref (bb E 32) :: rest)) := r_get X hH (k := 6) (by decide) (e_32 E _) rfl inlX7 (by decide) q_9_3 rfl hdg kk
theorem fp_X7_114 (X : GX p s m meth c args cc nL ret RX7 E) (hH : HH E S s H locs) {v : Int32} (hdg : decode cc pc = .ok (.putfield 114, 3)) (kk : ∀ (H1 : Heap) (locs1 : List Loc), HH E (st S 32 6 v) s H1 locs1 → W p l e R s m args below meth c H1 locs1 cells slots Q (F0 m (pc + 3) ls rest)) : W p l e R s m args below meth c H locs cells slots Q (F0 m pc ls (.int v :: .ref (bb E 32) :: rest)) := r_put X hH (k := 6) (st S 32 6 v) (by decide) (e_32 E _) rfl inlX7 tyX7_ok nmX7 (by decide) q_9_3 rfl rfl rfl rfl (by simp only [List.length_cons, List.length_nil]; decide) (by rw [e_32]; simp [st]) (fun a h => st_ne h) hdg kk
theorem fg_X7_117 (X : GX p s m meth c args cc nL ret RX7 E) (hH : HH E S s H locs) (hdg : decode cc pc = .ok (.getfield 117, 3)) (kk : W p l e R s m args below meth c H locs cells slots Q (F0 m (pc + 3) ls (.int (S 32 32) :: rest))) : W p l e R s m args below meth c H locs cells slots Q (F0 m pc ls (.ref (bb E 32) :: rest)) := r_get X hH (k := 32) (by decide) (e_32 E _) rfl inlX7 (by decide) q_9_4 rfl hdg kk
theorem fp_X7_117 (X : GX p s m meth c args cc nL ret RX7 E) (hH : HH E S s H locs) {v : Int32} (hdg : decode cc pc = .ok (.putfield 117, 3)) (kk : ∀ (H1 : Heap) (locs1 : List Loc), HH E (st S 32 32 v) s H1 locs1 → W p l e R s m args below meth c H1 locs1 cells slots Q (F0 m (pc + 3) ls rest)) : W p l e R s m args below meth c H locs cells slots Q (F0 m pc ls (.int v :: .ref (bb E 32) :: rest)) := r_put X hH (k := 32) (st S 32 32 v) (by decide) (e_32 E _) rfl inlX7 tyX7_ok nmX7 (by decide) q_9_4 rfl rfl rfl rfl (by simp only [List.length_cons, List.length_nil]; decide) (by rw [e_32]; simp [st]) (fun a h => st_ne h) hdg kk
theorem fg_X7_120 (X : GX p s m meth c args cc nL ret RX7 E) (hH : HH E S s H locs) (hdg : decode cc pc = .ok (.getfield 120, 3)) (kk : W p l e R s m args below meth c H locs cells slots Q (F0 m (pc + 3) ls (.int (S 32 27) :: rest))) : W p l e R s m args below meth c H locs cells slots Q (F0 m pc ls (.ref (bb E 32) :: rest)) := r_get X hH (k := 27) (by decide) (e_32 E _) rfl inlX7 (by decide) q_9_5 rfl hdg kk
theorem fp_X7_120 (X : GX p s m meth c args cc nL ret RX7 E) (hH : HH E S s H locs) {v : Int32} (hz : narrow .boolean (.int v) = .int v ∧ fits .boolean (.int v) = true) (hdg : decode cc pc = .ok (.putfield 120, 3)) (kk : ∀ (H1 : Heap) (locs1 : List Loc), HH E (st S 32 27 v) s H1 locs1 → W p l e R s m args below meth c H1 locs1 cells slots Q (F0 m (pc + 3) ls rest)) : W p l e R s m args below meth c H locs cells slots Q (F0 m pc ls (.int v :: .ref (bb E 32) :: rest)) := r_put X hH (k := 27) (st S 32 27 v) (by decide) (e_32 E _) rfl inlX7 tyX7_ok nmX7 (by decide) q_9_5 rfl rfl hz.1 hz.2 (by simp only [List.length_cons, List.length_nil]; decide) (by rw [e_32]; simp [st]) (fun a h => st_ne h) hdg kk
theorem fg_X7_140 (X : GX p s m meth c args cc nL ret RX7 E) (hH : HH E S s H locs) (hdg : decode cc pc = .ok (.getfield 140, 3)) (kk : W p l e R s m args below meth c H locs cells slots Q (F0 m (pc + 3) ls (.int (S 32 20) :: rest))) : W p l e R s m args below meth c H locs cells slots Q (F0 m pc ls (.ref (bb E 32) :: rest)) := r_get X hH (k := 20) (by decide) (e_32 E _) rfl inlX7 (by decide) q_14_8 rfl hdg kk
theorem fp_X7_140 (X : GX p s m meth c args cc nL ret RX7 E) (hH : HH E S s H locs) {v : Int32} (hdg : decode cc pc = .ok (.putfield 140, 3)) (kk : ∀ (H1 : Heap) (locs1 : List Loc), HH E (st S 32 20 v) s H1 locs1 → W p l e R s m args below meth c H1 locs1 cells slots Q (F0 m (pc + 3) ls rest)) : W p l e R s m args below meth c H locs cells slots Q (F0 m pc ls (.int v :: .ref (bb E 32) :: rest)) := r_put X hH (k := 20) (st S 32 20 v) (by decide) (e_32 E _) rfl inlX7 tyX7_ok nmX7 (by decide) q_14_8 rfl rfl rfl rfl (by simp only [List.length_cons, List.length_nil]; decide) (by rw [e_32]; simp [st]) (fun a h => st_ne h) hdg kk
theorem fg_X7_146 (X : GX p s m meth c args cc nL ret RX7 E) (hH : HH E S s H locs) (hdg : decode cc pc = .ok (.getfield 146, 3)) (kk : W p l e R s m args below meth c H locs cells slots Q (F0 m (pc + 3) ls (.int (S 32 21) :: rest))) : W p l e R s m args below meth c H locs cells slots Q (F0 m pc ls (.ref (bb E 32) :: rest)) := r_get X hH (k := 21) (by decide) (e_32 E _) rfl inlX7 (by decide) q_14_9 rfl hdg kk
theorem fp_X7_146 (X : GX p s m meth c args cc nL ret RX7 E) (hH : HH E S s H locs) {v : Int32} (hdg : decode cc pc = .ok (.putfield 146, 3)) (kk : ∀ (H1 : Heap) (locs1 : List Loc), HH E (st S 32 21 v) s H1 locs1 → W p l e R s m args below meth c H1 locs1 cells slots Q (F0 m (pc + 3) ls rest)) : W p l e R s m args below meth c H locs cells slots Q (F0 m pc ls (.int v :: .ref (bb E 32) :: rest)) := r_put X hH (k := 21) (st S 32 21 v) (by decide) (e_32 E _) rfl inlX7 tyX7_ok nmX7 (by decide) q_14_9 rfl rfl rfl rfl (by simp only [List.length_cons, List.length_nil]; decide) (by rw [e_32]; simp [st]) (fun a h => st_ne h) hdg kk
theorem fg_X7_159 (X : GX p s m meth c args cc nL ret RX7 E) (hH : HH E S s H locs) (hdg : decode cc pc = .ok (.getfield 159, 3)) (kk : W p l e R s m args below meth c H locs cells slots Q (F0 m (pc + 3) ls (.int (S 32 22) :: rest))) : W p l e R s m args below meth c H locs cells slots Q (F0 m pc ls (.ref (bb E 32) :: rest)) := r_get X hH (k := 22) (by decide) (e_32 E _) rfl inlX7 (by decide) q_14_17 rfl hdg kk
theorem fp_X7_159 (X : GX p s m meth c args cc nL ret RX7 E) (hH : HH E S s H locs) {v : Int32} (hdg : decode cc pc = .ok (.putfield 159, 3)) (kk : ∀ (H1 : Heap) (locs1 : List Loc), HH E (st S 32 22 v) s H1 locs1 → W p l e R s m args below meth c H1 locs1 cells slots Q (F0 m (pc + 3) ls rest)) : W p l e R s m args below meth c H locs cells slots Q (F0 m pc ls (.int v :: .ref (bb E 32) :: rest)) := r_put X hH (k := 22) (st S 32 22 v) (by decide) (e_32 E _) rfl inlX7 tyX7_ok nmX7 (by decide) q_14_17 rfl rfl rfl rfl (by simp only [List.length_cons, List.length_nil]; decide) (by rw [e_32]; simp [st]) (fun a h => st_ne h) hdg kk
theorem fg_X7_176 (X : GX p s m meth c args cc nL ret RX7 E) (hH : HH E S s H locs) (hdg : decode cc pc = .ok (.getfield 176, 3)) (kk : W p l e R s m args below meth c H locs cells slots Q (F0 m (pc + 3) ls (.int (S 32 26) :: rest))) : W p l e R s m args below meth c H locs cells slots Q (F0 m pc ls (.ref (bb E 32) :: rest)) := r_get X hH (k := 26) (by decide) (e_32 E _) rfl inlX7 (by decide) q_19_1 rfl hdg kk
theorem fp_X7_176 (X : GX p s m meth c args cc nL ret RX7 E) (hH : HH E S s H locs) {v : Int32} (hdg : decode cc pc = .ok (.putfield 176, 3)) (kk : ∀ (H1 : Heap) (locs1 : List Loc), HH E (st S 32 26 v) s H1 locs1 → W p l e R s m args below meth c H1 locs1 cells slots Q (F0 m (pc + 3) ls rest)) : W p l e R s m args below meth c H locs cells slots Q (F0 m pc ls (.int v :: .ref (bb E 32) :: rest)) := r_put X hH (k := 26) (st S 32 26 v) (by decide) (e_32 E _) rfl inlX7 tyX7_ok nmX7 (by decide) q_19_1 rfl rfl rfl rfl (by simp only [List.length_cons, List.length_nil]; decide) (by rw [e_32]; simp [st]) (fun a h => st_ne h) hdg kk
theorem fg_X7_189 (X : GX p s m meth c args cc nL ret RX7 E) (hH : HH E S s H locs) (hdg : decode cc pc = .ok (.getfield 189, 3)) (kk : W p l e R s m args below meth c H locs cells slots Q (F0 m (pc + 3) ls (.int (S 32 28) :: rest))) : W p l e R s m args below meth c H locs cells slots Q (F0 m pc ls (.ref (bb E 32) :: rest)) := r_get X hH (k := 28) (by decide) (e_32 E _) rfl inlX7 (by decide) q_21_5 rfl hdg kk
theorem fp_X7_189 (X : GX p s m meth c args cc nL ret RX7 E) (hH : HH E S s H locs) {v : Int32} (hz : narrow .boolean (.int v) = .int v ∧ fits .boolean (.int v) = true) (hdg : decode cc pc = .ok (.putfield 189, 3)) (kk : ∀ (H1 : Heap) (locs1 : List Loc), HH E (st S 32 28 v) s H1 locs1 → W p l e R s m args below meth c H1 locs1 cells slots Q (F0 m (pc + 3) ls rest)) : W p l e R s m args below meth c H locs cells slots Q (F0 m pc ls (.int v :: .ref (bb E 32) :: rest)) := r_put X hH (k := 28) (st S 32 28 v) (by decide) (e_32 E _) rfl inlX7 tyX7_ok nmX7 (by decide) q_21_5 rfl rfl hz.1 hz.2 (by simp only [List.length_cons, List.length_nil]; decide) (by rw [e_32]; simp [st]) (fun a h => st_ne h) hdg kk
theorem fg_X7_218 (X : GX p s m meth c args cc nL ret RX7 E) (hH : HH E S s H locs) (hdg : decode cc pc = .ok (.getfield 218, 3)) (kk : W p l e R s m args below meth c H locs cells slots Q (F0 m (pc + 3) ls (.int (S 32 1) :: rest))) : W p l e R s m args below meth c H locs cells slots Q (F0 m pc ls (.ref (bb E 32) :: rest)) := r_get X hH (k := 1) (by decide) (e_32 E _) rfl inlX7 (by decide) q_30_10 rfl hdg kk
theorem fp_X7_218 (X : GX p s m meth c args cc nL ret RX7 E) (hH : HH E S s H locs) {v : Int32} (hdg : decode cc pc = .ok (.putfield 218, 3)) (kk : ∀ (H1 : Heap) (locs1 : List Loc), HH E (st S 32 1 v) s H1 locs1 → W p l e R s m args below meth c H1 locs1 cells slots Q (F0 m (pc + 3) ls rest)) : W p l e R s m args below meth c H locs cells slots Q (F0 m pc ls (.int v :: .ref (bb E 32) :: rest)) := r_put X hH (k := 1) (st S 32 1 v) (by decide) (e_32 E _) rfl inlX7 tyX7_ok nmX7 (by decide) q_30_10 rfl rfl rfl rfl (by simp only [List.length_cons, List.length_nil]; decide) (by rw [e_32]; simp [st]) (fun a h => st_ne h) hdg kk
end fields
theorem gm_J7_13 : GS RJ7 13 yJ7_rangeCheck_23922 (Cond.code yJ7_rangeCheck_23922 cJ7_rangeCheck_23922 3 none) 3 := ⟨⟨q_8_15, q_8_16, q_8_13, q_8_17⟩, by decide, by decide, by decide +kernel⟩
theorem gm_L_100 : GV RL 100 RX6 yX6_lose (Cond.code yX6_lose cX6_lose 4 (some .int)) 1 := ⟨⟨q_27_10, q_27_11, q_27_12, q_1_2, q_27_13⟩, rfl, by decide, by decide, by decide +kernel⟩
theorem gm_L_103 : GV RL 103 RX7 yX7_lose (Cond.code yX7_lose cX7_lose 3 (some .int)) 1 := ⟨⟨q_27_15, q_27_16, q_27_17, q_1_5, q_27_18⟩, rfl, by decide, by decide, by decide +kernel⟩
theorem gm_L_104 : GV RL 104 RX6 yX6_put (Cond.code yX6_put cX6_put 6 (some .int)) 3 := ⟨⟨q_27_19, q_27_20, q_27_21, q_1_2, q_27_22⟩, rfl, by decide, by decide, by decide +kernel⟩
theorem gm_L_107 : GV RL 107 RX7 yX7_put (Cond.code yX7_put cX7_put 4 (some .int)) 3 := ⟨⟨q_28_3, q_28_4, q_28_5, q_1_5, q_28_6⟩, rfl, by decide, by decide, by decide +kernel⟩
theorem gm_L_108 : GV RL 108 RX6 yX6_cell (Cond.code yX6_cell cX6_cell 5 (some .long)) 3 := ⟨⟨q_28_7, q_28_8, q_28_9, q_1_2, q_28_10⟩, rfl, by decide, by decide, by decide +kernel⟩
theorem gm_L_112 : GV RL 112 RX7 yX7_cell (Cond.code yX7_cell cX7_cell 4 (some .long)) 3 := ⟨⟨q_28_11, q_28_12, q_28_13, q_1_5, q_28_14⟩, rfl, by decide, by decide, by decide +kernel⟩
theorem gm_L_113 : GV RL 113 RX6 yX6_copy (Cond.code yX6_copy cX6_copy 8 (some .int)) 5 := ⟨⟨q_28_19, q_28_20, q_28_21, q_1_2, q_28_22⟩, rfl, by decide, by decide, by decide +kernel⟩
theorem gm_L_116 : GV RL 116 RX7 yX7_copy (Cond.code yX7_copy cX7_copy 10 (some .int)) 5 := ⟨⟨q_29_1, q_29_2, q_29_3, q_1_5, q_29_4⟩, rfl, by decide, by decide, by decide +kernel⟩
theorem gm_L_117 : GV RL 117 RX6 yX6_tell (Cond.code yX6_tell cX6_tell 3 (some .int)) 1 := ⟨⟨q_29_5, q_29_6, q_29_7, q_1_2, q_29_8⟩, rfl, by decide, by decide, by decide +kernel⟩
theorem gm_L_120 : GV RL 120 RX7 yX7_tell (Cond.code yX7_tell cX7_tell 3 (some .int)) 1 := ⟨⟨q_30_2, q_30_3, q_30_4, q_1_5, q_30_5⟩, rfl, by decide, by decide, by decide +kernel⟩
theorem gm_L_121 : GV RL 121 RX6 yX6_click (Cond.code yX6_click cX6_click 3 (some .int)) 1 := ⟨⟨q_30_11, q_30_12, q_30_13, q_1_2, q_30_14⟩, rfl, by decide, by decide, by decide +kernel⟩
theorem gm_L_124 : GV RL 124 RX7 yX7_click (Cond.code yX7_click cX7_click 2 (some .int)) 1 := ⟨⟨q_30_15, q_30_16, q_30_17, q_1_5, q_30_18⟩, rfl, by decide, by decide, by decide +kernel⟩
theorem gm_L_125 : GV RL 125 RX6 yX6_as (Cond.code yX6_as cX6_as 4 (some .int)) 2 := ⟨⟨q_30_19, q_30_20, q_30_21, q_1_2, q_30_22⟩, rfl, by decide, by decide, by decide +kernel⟩
theorem gm_L_128 : GV RL 128 RX7 yX7_as (Cond.code yX7_as cX7_as 3 (some .int)) 2 := ⟨⟨q_30_23, q_31_0, q_31_1, q_1_5, q_31_2⟩, rfl, by decide, by decide, by decide +kernel⟩
theorem gm_L_129 : GV RL 129 RX6 yX6_trace (Cond.code yX6_trace cX6_trace 1 (some .int)) 0 := ⟨⟨q_31_3, q_31_4, q_31_5, q_1_2, q_31_6⟩, rfl, by decide, by decide, by decide +kernel⟩
theorem gm_L_13 : GV RL 13 RX6 yX6_macros (Cond.code yX6_macros cX6_macros 8 (some .int)) 4 := ⟨⟨q_4_15, q_4_16, q_4_17, q_1_2, q_4_18⟩, rfl, by decide, by decide, by decide +kernel⟩
theorem gm_L_132 : GV RL 132 RX7 yX7_trace (Cond.code yX7_trace cX7_trace 1 (some .int)) 0 := ⟨⟨q_31_7, q_31_8, q_31_9, q_1_5, q_31_10⟩, rfl, by decide, by decide, by decide +kernel⟩
theorem gm_L_133 : GV RL 133 RX6 yX6_fault (Cond.code yX6_fault cX6_fault 1 (some .int)) 0 := ⟨⟨q_31_11, q_31_12, q_31_13, q_1_2, q_31_14⟩, rfl, by decide, by decide, by decide +kernel⟩
theorem gm_L_136 : GV RL 136 RX7 yX7_fault (Cond.code yX7_fault cX7_fault 1 (some .int)) 0 := ⟨⟨q_31_15, q_31_16, q_31_17, q_1_5, q_31_18⟩, rfl, by decide, by decide, by decide +kernel⟩
theorem gm_L_137 : GV RL 137 RX6 yX6_many (Cond.code yX6_many cX6_many 2 (some .int)) 1 := ⟨⟨q_31_19, q_31_20, q_31_21, q_1_2, q_31_22⟩, rfl, by decide, by decide, by decide +kernel⟩
theorem gm_L_140 : GV RL 140 RX7 yX7_many (Cond.code yX7_many cX7_many 2 (some .int)) 1 := ⟨⟨q_31_23, q_32_0, q_32_1, q_1_5, q_32_2⟩, rfl, by decide, by decide, by decide +kernel⟩
theorem gm_L_17 : GV RL 17 RX7 yX7_macros (Cond.code yX7_macros cX7_macros 9 (some .int)) 4 := ⟨⟨q_8_18, q_8_19, q_8_20, q_1_5, q_8_21⟩, rfl, by decide, by decide, by decide +kernel⟩
theorem gm_L_18 : GV RL 18 RX6 yX6_ofMacro (Cond.code yX6_ofMacro cX6_ofMacro 4 (some .int)) 2 := ⟨⟨q_10_10, q_10_11, q_10_12, q_1_2, q_10_13⟩, rfl, by decide, by decide, by decide +kernel⟩
theorem gm_L_22 : GV RL 22 RX7 yX7_ofMacro (Cond.code yX7_ofMacro cX7_ofMacro 3 (some .int)) 2 := ⟨⟨q_11_12, q_11_13, q_11_14, q_1_5, q_11_15⟩, rfl, by decide, by decide, by decide +kernel⟩
theorem gm_L_23 : GV RL 23 RX6 yX6_key (Cond.code yX6_key cX6_key 5 (some .int)) 2 := ⟨⟨q_12_4, q_12_5, q_12_6, q_1_2, q_12_7⟩, rfl, by decide, by decide, by decide +kernel⟩
theorem gm_L_26 : GV RL 26 RX7 yX7_key (Cond.code yX7_key cX7_key 3 (some .int)) 2 := ⟨⟨q_12_9, q_12_10, q_12_11, q_1_5, q_12_12⟩, rfl, by decide, by decide, by decide +kernel⟩
theorem gm_L_27 : GV RL 27 RX6 yX6_times (Cond.code yX6_times cX6_times 5 (some .int)) 2 := ⟨⟨q_12_13, q_12_14, q_12_15, q_1_2, q_12_16⟩, rfl, by decide, by decide, by decide +kernel⟩
theorem gm_L_30 : GV RL 30 RX7 yX7_times (Cond.code yX7_times cX7_times 4 (some .int)) 2 := ⟨⟨q_12_23, q_13_0, q_13_1, q_1_5, q_13_2⟩, rfl, by decide, by decide, by decide +kernel⟩
theorem gm_L_31 : GV RL 31 RX6 yX6_press (Cond.code yX6_press cX6_press 3 (some .int)) 1 := ⟨⟨q_13_3, q_13_4, q_13_5, q_1_2, q_13_6⟩, rfl, by decide, by decide, by decide +kernel⟩
theorem gm_L_35 : GV RL 35 RX7 yX7_press (Cond.code yX7_press cX7_press 3 (some .int)) 1 := ⟨⟨q_14_0, q_14_1, q_14_2, q_1_5, q_14_3⟩, rfl, by decide, by decide, by decide +kernel⟩
theorem gm_L_36 : GV RL 36 RX6 yX6_play (Cond.code yX6_play cX6_play 3 (some .int)) 1 := ⟨⟨q_15_10, q_15_11, q_15_12, q_1_2, q_15_13⟩, rfl, by decide, by decide, by decide +kernel⟩
theorem gm_L_39 : GV RL 39 RX7 yX7_play (Cond.code yX7_play cX7_play 2 (some .int)) 1 := ⟨⟨q_16_10, q_16_11, q_16_12, q_1_5, q_16_13⟩, rfl, by decide, by decide, by decide +kernel⟩
theorem gm_L_40 : GV RL 40 RX6 yX6_letter (Cond.code yX6_letter cX6_letter 2 (some .int)) 1 := ⟨⟨q_16_18, q_16_19, q_16_20, q_1_2, q_16_21⟩, rfl, by decide, by decide, by decide +kernel⟩
theorem gm_L_43 : GV RL 43 RX7 yX7_letter (Cond.code yX7_letter cX7_letter 2 (some .int)) 1 := ⟨⟨q_17_2, q_17_3, q_17_4, q_1_5, q_17_5⟩, rfl, by decide, by decide, by decide +kernel⟩
theorem gm_L_44 : GV RL 44 RX6 yX6_clear (Cond.code yX6_clear cX6_clear 2 (some .int)) 0 := ⟨⟨q_17_6, q_17_7, q_17_8, q_1_2, q_17_9⟩, rfl, by decide, by decide, by decide +kernel⟩
theorem gm_L_48 : GV RL 48 RX7 yX7_clear (Cond.code yX7_clear cX7_clear 1 (some .int)) 0 := ⟨⟨q_17_10, q_17_11, q_17_12, q_1_5, q_17_13⟩, rfl, by decide, by decide, by decide +kernel⟩
theorem gm_L_49 : GV RL 49 RX6 yX6_row (Cond.code yX6_row cX6_row 8 (some .int)) 5 := ⟨⟨q_17_14, q_17_15, q_17_16, q_1_2, q_17_17⟩, rfl, by decide, by decide, by decide +kernel⟩
theorem gm_L_53 : GV RL 53 RX7 yX7_row (Cond.code yX7_row cX7_row 10 (some .int)) 5 := ⟨⟨q_18_17, q_18_18, q_18_19, q_1_5, q_18_20⟩, rfl, by decide, by decide, by decide +kernel⟩
theorem gm_L_54 : GV RL 54 RX6 yX6_fewest (Cond.code yX6_fewest cX6_fewest 9 (some .int)) 5 := ⟨⟨q_19_6, q_19_7, q_19_8, q_1_2, q_19_9⟩, rfl, by decide, by decide, by decide +kernel⟩
theorem gm_L_57 : GV RL 57 RX7 yX7_fewest (Cond.code yX7_fewest cX7_fewest 11 (some .int)) 5 := ⟨⟨q_20_21, q_20_22, q_20_23, q_1_5, q_21_0⟩, rfl, by decide, by decide, by decide +kernel⟩
theorem gm_L_58 : GV RL 58 RX6 yX6_again (Cond.code yX6_again cX6_again 3 (some .int)) 2 := ⟨⟨q_21_22, q_21_23, q_22_0, q_1_2, q_22_1⟩, rfl, by decide, by decide, by decide +kernel⟩
theorem gm_L_61 : GV RL 61 RX7 yX7_again (Cond.code yX7_again cX7_again 5 (some .int)) 2 := ⟨⟨q_22_18, q_22_19, q_22_20, q_1_5, q_22_21⟩, rfl, by decide, by decide, by decide +kernel⟩
theorem gm_L_62 : GV RL 62 RX6 yX6_like (Cond.code yX6_like cX6_like 5 (some .int)) 2 := ⟨⟨q_22_22, q_22_23, q_23_0, q_1_2, q_23_1⟩, rfl, by decide, by decide, by decide +kernel⟩
theorem gm_L_65 : GV RL 65 RX7 yX7_like (Cond.code yX7_like cX7_like 5 (some .int)) 2 := ⟨⟨q_23_8, q_23_9, q_23_10, q_1_5, q_23_11⟩, rfl, by decide, by decide, by decide +kernel⟩
theorem gm_L_66 : GV RL 66 RX6 yX6_still (Cond.code yX6_still cX6_still 4 (some .int)) 1 := ⟨⟨q_23_16, q_23_17, q_23_18, q_1_2, q_23_19⟩, rfl, by decide, by decide, by decide +kernel⟩
theorem gm_L_69 : GV RL 69 RX7 yX7_still (Cond.code yX7_still cX7_still 4 (some .int)) 1 := ⟨⟨q_23_20, q_23_21, q_23_22, q_1_5, q_23_23⟩, rfl, by decide, by decide, by decide +kernel⟩
theorem gm_L_70 : GV RL 70 RX6 yX6_come (Cond.code yX6_come cX6_come 1 (some .int)) 0 := ⟨⟨q_24_0, q_24_1, q_24_2, q_1_2, q_24_3⟩, rfl, by decide, by decide, by decide +kernel⟩
theorem gm_L_73 : GV RL 73 RX7 yX7_come (Cond.code yX7_come cX7_come 5 (some .int)) 0 := ⟨⟨q_24_9, q_24_10, q_24_11, q_1_5, q_24_12⟩, rfl, by decide, by decide, by decide +kernel⟩
theorem gm_L_74 : GV RL 74 RX6 yX6_reading (Cond.code yX6_reading cX6_reading 3 (some .int)) 2 := ⟨⟨q_24_13, q_24_14, q_24_15, q_1_2, q_24_16⟩, rfl, by decide, by decide, by decide +kernel⟩
theorem gm_L_77 : GV RL 77 RX7 yX7_reading (Cond.code yX7_reading cX7_reading 3 (some .int)) 2 := ⟨⟨q_24_17, q_24_18, q_24_19, q_1_5, q_24_20⟩, rfl, by decide, by decide, by decide +kernel⟩
theorem gm_L_78 : GV RL 78 RX6 yX6_back (Cond.code yX6_back cX6_back 2 (some .int)) 1 := ⟨⟨q_24_21, q_24_22, q_24_23, q_1_2, q_25_0⟩, rfl, by decide, by decide, by decide +kernel⟩
theorem gm_L_81 : GV RL 81 RX7 yX7_back (Cond.code yX7_back cX7_back 2 (some .int)) 1 := ⟨⟨q_25_1, q_25_2, q_25_3, q_1_5, q_25_4⟩, rfl, by decide, by decide, by decide +kernel⟩
theorem gm_L_82 : GV RL 82 RX6 yX6_timings (Cond.code yX6_timings cX6_timings 6 (some .int)) 1 := ⟨⟨q_25_5, q_25_6, q_25_7, q_1_2, q_25_8⟩, rfl, by decide, by decide, by decide +kernel⟩
theorem gm_L_85 : GV RL 85 RX7 yX7_timings (Cond.code yX7_timings cX7_timings 5 (some .int)) 1 := ⟨⟨q_25_13, q_25_14, q_25_15, q_1_5, q_25_16⟩, rfl, by decide, by decide, by decide +kernel⟩
theorem gm_L_86 : GV RL 86 RX6 yX6_kinds (Cond.code yX6_kinds cX6_kinds 6 (some .int)) 1 := ⟨⟨q_25_21, q_25_22, q_25_23, q_1_2, q_26_0⟩, rfl, by decide, by decide, by decide +kernel⟩
theorem gm_L_89 : GV RL 89 RX7 yX7_kinds (Cond.code yX7_kinds cX7_kinds 5 (some .int)) 1 := ⟨⟨q_26_1, q_26_2, q_26_3, q_1_5, q_26_4⟩, rfl, by decide, by decide, by decide +kernel⟩
theorem gm_L_90 : GV RL 90 RX6 yX6_odds (Cond.code yX6_odds cX6_odds 5 (some .long)) 2 := ⟨⟨q_26_5, q_26_6, q_26_7, q_1_2, q_26_8⟩, rfl, by decide, by decide, by decide +kernel⟩
theorem gm_L_94 : GV RL 94 RX7 yX7_odds (Cond.code yX7_odds cX7_odds 7 (some .long)) 2 := ⟨⟨q_26_13, q_26_14, q_26_15, q_1_5, q_26_16⟩, rfl, by decide, by decide, by decide +kernel⟩
theorem gm_L_95 : GV RL 95 RX6 yX6_sheet (Cond.code yX6_sheet cX6_sheet 5 (some .int)) 3 := ⟨⟨q_26_21, q_26_22, q_26_23, q_1_2, q_27_0⟩, rfl, by decide, by decide, by decide +kernel⟩
theorem gm_L_99 : GV RL 99 RX7 yX7_sheet (Cond.code yX7_sheet cX7_sheet 5 (some .int)) 3 := ⟨⟨q_27_6, q_27_7, q_27_8, q_1_5, q_27_9⟩, rfl, by decide, by decide, by decide +kernel⟩
theorem gm_X0_32 : GV RX0 32 RX2 yX2_become (Cond.code yX2_become cX2_become 2 none) 1 := ⟨⟨q_7_20, q_7_21, q_7_22, q_2_14, q_7_23⟩, rfl, by decide, by decide, by decide +kernel⟩
theorem gm_X0_36 : GV RX0 36 RX0 yX0_forget (Cond.code yX0_forget cX0_forget 2 none) 1 := ⟨⟨q_8_7, q_8_8, q_8_9, q_1_14, q_8_10⟩, rfl, by decide, by decide, by decide +kernel⟩
theorem gm_X0_40 : GV RX0 40 RX0 yX0_keysThereAre (Cond.code yX0_keysThereAre cX0_keysThereAre 1 (some .int)) 0 := ⟨⟨q_23_6, q_18_2, q_18_3, q_1_14, q_18_4⟩, rfl, by decide, by decide, by decide +kernel⟩
theorem gm_X0_44 : GV RX0 44 RX0 yX0_macroOf (Cond.code yX0_macroOf cX0_macroOf 2 (some (.object "MacroKeys$Macro"))) 1 := ⟨⟨q_11_5, q_10_18, q_10_19, q_1_14, q_10_20⟩, rfl, by decide, by decide, by decide +kernel⟩
theorem gm_X0_54 : GS RX0 54 yJ7_fill_fda19 (Cond.code yJ7_fill_fda19 cJ7_fill_fda19 5 none) 4 := ⟨⟨q_8_11, q_8_12, q_8_13, q_8_14⟩, by decide, by decide, by decide +kernel⟩
theorem gm_X0_63 : GV RX0 63 RX2 yX2_keyAt (Cond.code yX2_keyAt cX2_keyAt 2 (some .int)) 1 := ⟨⟨q_11_6, q_11_7, q_11_8, q_2_14, q_11_9⟩, rfl, by decide, by decide, by decide +kernel⟩
theorem gm_X0_67 : GV RX0 67 RX0 yX0_pressesOf (Cond.code yX0_pressesOf cX0_pressesOf 6 (some .int)) 1 := ⟨⟨q_11_10, q_11_1, q_11_2, q_1_14, q_11_3⟩, rfl, by decide, by decide, by decide +kernel⟩
theorem gm_X0_70 : GV RX0 70 RX2 yX2_often (Cond.code yX2_often cX2_often 1 (some .int)) 0 := ⟨⟨q_11_11, q_10_22, q_10_23, q_2_14, q_11_0⟩, rfl, by decide, by decide, by decide +kernel⟩
theorem gm_X0_73 : GV RX0 73 RX0 yX0_effectOf (Cond.code yX0_effectOf cX0_effectOf 6 (some .int)) 2 := ⟨⟨q_16_1, q_15_14, q_15_15, q_1_14, q_15_16⟩, rfl, by decide, by decide, by decide +kernel⟩
theorem gm_X0_77 : GS RX0 77 yX0_lineOf (Cond.code yX0_lineOf cX0_lineOf 1 (some .int)) 1 := ⟨⟨q_16_5, q_16_6, q_1_14, q_16_7⟩, by decide, by decide, by decide +kernel⟩
theorem gm_X0_80 : GS RX0 80 yX1_after (Cond.code yX1_after cX1_after 6 (some .int)) 2 := ⟨⟨q_15_17, q_13_8, q_13_9, q_13_10⟩, by decide, by decide, by decide +kernel⟩
theorem gm_X0_83 : GS RX0 83 yX1_isLine (Cond.code yX1_isLine cX1_isLine 1 (some .boolean)) 1 := ⟨⟨q_15_18, q_15_19, q_13_9, q_15_20⟩, by decide, by decide, by decide +kernel⟩
theorem gm_X0_87 : GV RX0 87 RX0 yX0_played (Cond.code yX0_played cX0_played 11 (some .int)) 3 := ⟨⟨q_15_21, q_15_22, q_15_23, q_1_14, q_16_0⟩, rfl, by decide, by decide, by decide +kernel⟩
theorem gm_X0_91 : GS RX0 91 yX0_bumpsOf (Cond.code yX0_bumpsOf cX0_bumpsOf 1 (some .int)) 1 := ⟨⟨q_16_2, q_16_3, q_1_14, q_16_4⟩, by decide, by decide, by decide +kernel⟩
theorem gm_X1_15 : GS RX1 15 yX1_countOf (Cond.code yX1_countOf cX1_countOf 2 (some .int)) 1 := ⟨⟨q_13_12, q_13_13, q_13_9, q_13_14⟩, by decide, by decide, by decide +kernel⟩
theorem gm_X1_19 : GS RX1 19 yX1_letterAt (Cond.code yX1_letterAt cX1_letterAt 3 (some .int)) 2 := ⟨⟨q_18_16, q_17_0, q_13_9, q_17_1⟩, by decide, by decide, by decide +kernel⟩
theorem gm_X1_23 : GS RX1 23 yX1_of (Cond.code yX1_of cX1_of 3 (some .int)) 3 := ⟨⟨q_13_15, q_13_16, q_13_9, q_13_17⟩, by decide, by decide, by decide +kernel⟩
theorem gm_X1_27 : GS RX1 27 yX1_without (Cond.code yX1_without cX1_without 3 (some .int)) 2 := ⟨⟨q_13_18, q_13_19, q_13_9, q_13_20⟩, by decide, by decide, by decide +kernel⟩
theorem gm_X1_30 : GS RX1 30 yX1_with (Cond.code yX1_with cX1_with 4 (some .int)) 3 := ⟨⟨q_13_21, q_13_22, q_13_9, q_13_23⟩, by decide, by decide, by decide +kernel⟩
theorem gm_X3_35 : GV RX3 35 RX3 yX3_goesOn (Cond.code yX3_goesOn cX3_goesOn 2 (some .boolean)) 1 := ⟨⟨q_6_1, q_6_2, q_6_3, q_1_18, q_6_4⟩, rfl, by decide, by decide, by decide +kernel⟩
theorem gm_X3_39 : GV RX3 39 RX3 yX3_hasKeys (Cond.code yX3_hasKeys cX3_hasKeys 1 (some .boolean)) 0 := ⟨⟨q_7_9, q_7_10, q_7_11, q_1_18, q_7_12⟩, rfl, by decide, by decide, by decide +kernel⟩
theorem gm_X3_43 : GV RX3 43 RX3 yX3_begins (Cond.code yX3_begins cX3_begins 2 (some .boolean)) 1 := ⟨⟨q_6_5, q_6_6, q_6_7, q_1_18, q_6_8⟩, rfl, by decide, by decide, by decide +kernel⟩
theorem gm_X3_46 : GV RX3 46 RX3 yX3_marks (Cond.code yX3_marks cX3_marks 2 (some .boolean)) 1 := ⟨⟨q_6_9, q_6_10, q_6_11, q_1_18, q_6_12⟩, rfl, by decide, by decide, by decide +kernel⟩
theorem gm_X3_49 : GV RX3 49 RX3 yX3_tellsKind (Cond.code yX3_tellsKind cX3_tellsKind 2 (some .boolean)) 1 := ⟨⟨q_6_14, q_6_15, q_6_16, q_1_18, q_6_17⟩, rfl, by decide, by decide, by decide +kernel⟩
theorem gm_X3_52 : GV RX3 52 RX3 yX3_tellsTimes (Cond.code yX3_tellsTimes cX3_tellsTimes 2 (some .boolean)) 1 := ⟨⟨q_6_19, q_6_20, q_6_21, q_1_18, q_6_22⟩, rfl, by decide, by decide, by decide +kernel⟩
theorem gm_X3_55 : GV RX3 55 RX3 yX3_addsKey (Cond.code yX3_addsKey cX3_addsKey 3 (some .boolean)) 1 := ⟨⟨q_7_0, q_7_1, q_7_2, q_1_18, q_7_3⟩, rfl, by decide, by decide, by decide +kernel⟩
theorem gm_X3_67 : GV RX3 67 RX3 yX3_keyOf (Cond.code yX3_keyOf cX3_keyOf 3 (some .int)) 1 := ⟨⟨q_7_5, q_7_6, q_7_7, q_1_18, q_7_8⟩, rfl, by decide, by decide, by decide +kernel⟩
theorem gm_X4_20 : GV RX4 20 RX4 yX4_find (Cond.code yX4_find cX4_find 9 (some .int)) 4 := ⟨⟨q_24_8, q_19_15, q_19_16, q_1_22, q_19_17⟩, rfl, by decide, by decide, by decide +kernel⟩
theorem gm_X4_28 : GS RX4 28 yJ7_fill_53178 (Cond.code yJ7_fill_53178 cJ7_fill_53178 4 none) 2 := ⟨⟨q_19_19, q_19_20, q_8_13, q_19_21⟩, by decide, by decide, by decide +kernel⟩
theorem gm_X4_34 : GV RX4 34 RX4 yX4_queueUp (Cond.code yX4_queueUp cX4_queueUp 3 none) 2 := ⟨⟨q_19_22, q_19_23, q_20_0, q_1_22, q_20_1⟩, rfl, by decide, by decide, by decide +kernel⟩
theorem gm_X4_38 : GS RX4 38 yX4_hasLetters (Cond.code yX4_hasLetters cX4_hasLetters 2 (some .boolean)) 2 := ⟨⟨q_20_3, q_20_4, q_1_22, q_20_5⟩, by decide, by decide, by decide +kernel⟩
theorem gm_X4_42 : GV RX4 42 RX0 yX0_keysThereAre (Cond.code yX0_keysThereAre cX0_keysThereAre 1 (some .int)) 0 := ⟨⟨q_20_7, q_18_2, q_18_3, q_1_14, q_18_4⟩, rfl, by decide, by decide, by decide +kernel⟩
theorem gm_X4_48 : GV RX4 48 RX0 yX0_lineAfter (Cond.code yX0_lineAfter cX0_lineAfter 3 (some .int)) 2 := ⟨⟨q_20_8, q_20_9, q_20_10, q_1_14, q_20_11⟩, rfl, by decide, by decide, by decide +kernel⟩
theorem gm_X4_52 : GS RX4 52 yX1_isLine (Cond.code yX1_isLine cX1_isLine 1 (some .boolean)) 1 := ⟨⟨q_20_2, q_15_19, q_13_9, q_15_20⟩, by decide, by decide, by decide +kernel⟩
theorem gm_X4_56 : GS RX4 56 yX1_after (Cond.code yX1_after cX1_after 6 (some .int)) 2 := ⟨⟨q_20_6, q_13_8, q_13_9, q_13_10⟩, by decide, by decide, by decide +kernel⟩
theorem gm_X4_59 : GV RX4 59 RX4 yX4_stepsTo (Cond.code yX4_stepsTo cX4_stepsTo 4 (some .int)) 1 := ⟨⟨q_20_20, q_20_13, q_20_14, q_1_22, q_20_15⟩, rfl, by decide, by decide, by decide +kernel⟩
theorem gm_X4_63 : GV RX4 63 RX4 yX4_playOn (Cond.code yX4_playOn cX4_playOn 5 (some .int)) 3 := ⟨⟨q_22_6, q_22_7, q_22_8, q_1_22, q_22_9⟩, rfl, by decide, by decide, by decide +kernel⟩
theorem gm_X4_67 : GV RX4 67 RX4 yX4_playsTo (Cond.code yX4_playsTo cX4_playsTo 2 (some .int)) 1 := ⟨⟨q_22_10, q_22_11, q_22_12, q_1_22, q_22_13⟩, rfl, by decide, by decide, by decide +kernel⟩
theorem gm_X5_22 : GS RX5 22 yJ7_fill_53178 (Cond.code yJ7_fill_53178 cJ7_fill_53178 4 none) 2 := ⟨⟨q_27_5, q_19_20, q_8_13, q_19_21⟩, by decide, by decide, by decide +kernel⟩
theorem gm_X5_28 : GV RX5 28 RX5 yX5_hasAll (Cond.code yX5_hasAll cX5_hasAll 3 (some .boolean)) 2 := ⟨⟨q_5_9, q_5_10, q_5_11, q_2_2, q_5_12⟩, rfl, by decide, by decide, by decide +kernel⟩
theorem gm_X6_100 : GV RX6 100 RX2 yX2_often (Cond.code yX2_often cX2_often 1 (some .int)) 0 := ⟨⟨q_10_21, q_10_22, q_10_23, q_2_14, q_11_0⟩, rfl, by decide, by decide, by decide +kernel⟩
theorem gm_X6_107 : GN RX0 yX0_pressesOf (Cond.code yX0_pressesOf cX0_pressesOf 6 (some .int)) 1 := ⟨⟨q_11_1, q_11_2, q_1_14, q_11_3⟩, by decide, by decide, by decide +kernel⟩
theorem gm_X6_110 : GV RX6 110 RX2 yX2_keyAt (Cond.code yX2_keyAt cX2_keyAt 2 (some .int)) 1 := ⟨⟨q_12_8, q_11_7, q_11_8, q_2_14, q_11_9⟩, rfl, by decide, by decide, by decide +kernel⟩
theorem gm_X6_113 : GV RX6 113 RX0 yX0_change (Cond.code yX0_change cX0_change 5 none) 3 := ⟨⟨q_12_17, q_12_18, q_12_19, q_1_14, q_12_20⟩, rfl, by decide, by decide, by decide +kernel⟩
theorem gm_X6_117 : GS RX6 117 yX1_after (Cond.code yX1_after cX1_after 6 (some .int)) 2 := ⟨⟨q_13_7, q_13_8, q_13_9, q_13_10⟩, by decide, by decide, by decide +kernel⟩
theorem gm_X6_121 : GN RX0 yX0_effectOf (Cond.code yX0_effectOf cX0_effectOf 6 (some .int)) 2 := ⟨⟨q_15_14, q_15_15, q_1_14, q_15_16⟩, by decide, by decide, by decide +kernel⟩
theorem gm_X6_124 : GS RX6 124 yX0_lineOf (Cond.code yX0_lineOf cX0_lineOf 1 (some .int)) 1 := ⟨⟨q_16_8, q_16_6, q_1_14, q_16_7⟩, by decide, by decide, by decide +kernel⟩
theorem gm_X6_127 : GS RX6 127 yX0_bumpsOf (Cond.code yX0_bumpsOf cX0_bumpsOf 1 (some .int)) 1 := ⟨⟨q_16_9, q_16_3, q_1_14, q_16_4⟩, by decide, by decide, by decide +kernel⟩
theorem gm_X6_130 : GS RX6 130 yX1_countOf (Cond.code yX1_countOf cX1_countOf 2 (some .int)) 1 := ⟨⟨q_16_22, q_13_13, q_13_9, q_13_14⟩, by decide, by decide, by decide +kernel⟩
theorem gm_X6_133 : GS RX6 133 yX1_letterAt (Cond.code yX1_letterAt cX1_letterAt 3 (some .int)) 2 := ⟨⟨q_16_23, q_17_0, q_13_9, q_17_1⟩, by decide, by decide, by decide +kernel⟩
theorem gm_X6_136 : GS RX6 136 yX6_isOfRow (Cond.code yX6_isOfRow cX6_isOfRow 1 (some .boolean)) 1 := ⟨⟨q_17_18, q_17_19, q_1_2, q_17_20⟩, by decide, by decide, by decide +kernel⟩
theorem gm_X6_139 : GV RX6 139 RX5 yX5_allWithin (Cond.code yX5_allWithin cX5_allWithin 6 (some .boolean)) 3 := ⟨⟨q_17_21, q_17_22, q_17_23, q_2_2, q_18_0⟩, rfl, by decide, by decide, by decide +kernel⟩
theorem gm_X6_143 : GV RX6 143 RX0 yX0_keysThereAre (Cond.code yX0_keysThereAre cX0_keysThereAre 1 (some .int)) 0 := ⟨⟨q_18_1, q_18_2, q_18_3, q_1_14, q_18_4⟩, rfl, by decide, by decide, by decide +kernel⟩
theorem gm_X6_146 : GV RX6 146 RX6 yX6_ofRow (Cond.code yX6_ofRow cX6_ofRow 12 (some .int)) 4 := ⟨⟨q_18_5, q_18_6, q_18_7, q_1_2, q_18_8⟩, rfl, by decide, by decide, by decide +kernel⟩
theorem gm_X6_153 : GS RX6 153 yX1_cursorOf (Cond.code yX1_cursorOf cX1_cursorOf 2 (some .int)) 1 := ⟨⟨q_18_10, q_18_11, q_13_9, q_18_12⟩, by decide, by decide, by decide +kernel⟩
theorem gm_X6_156 : GS RX6 156 yX1_digitsOf (Cond.code yX1_digitsOf cX1_digitsOf 4 (some .int)) 1 := ⟨⟨q_18_13, q_18_14, q_13_9, q_18_15⟩, by decide, by decide, by decide +kernel⟩
theorem gm_X6_159 : GS RX6 159 yX6_lineTold (Cond.code yX6_lineTold cX6_lineTold 5 (some .int)) 3 := ⟨⟨q_19_10, q_19_11, q_1_2, q_19_12⟩, by decide, by decide, by decide +kernel⟩
theorem gm_X6_162 : GV RX6 162 RX4 yX4_find (Cond.code yX4_find cX4_find 9 (some .int)) 4 := ⟨⟨q_19_14, q_19_15, q_19_16, q_1_22, q_19_17⟩, rfl, by decide, by decide, by decide +kernel⟩
theorem gm_X6_166 : GV RX6 166 RX4 yX4_stepsTo (Cond.code yX4_stepsTo cX4_stepsTo 4 (some .int)) 1 := ⟨⟨q_20_12, q_20_13, q_20_14, q_1_22, q_20_15⟩, rfl, by decide, by decide, by decide +kernel⟩
theorem gm_X6_169 : GV RX6 169 RX4 yX4_keyTo (Cond.code yX4_keyTo cX4_keyTo 6 (some .int)) 2 := ⟨⟨q_20_16, q_20_17, q_20_18, q_1_22, q_20_19⟩, rfl, by decide, by decide, by decide +kernel⟩
theorem gm_X6_172 : GS RX6 172 yX1_of (Cond.code yX1_of cX1_of 3 (some .int)) 3 := ⟨⟨q_19_13, q_13_16, q_13_9, q_13_17⟩, by decide, by decide, by decide +kernel⟩
theorem gm_X6_175 : GV RX6 175 RX4 yX4_aheadOfRound (Cond.code yX4_aheadOfRound cX4_aheadOfRound 4 (some .int)) 3 := ⟨⟨q_22_2, q_22_3, q_22_4, q_1_22, q_22_5⟩, rfl, by decide, by decide, by decide +kernel⟩
theorem gm_X6_179 : GV RX6 179 RX4 yX4_round (Cond.code yX4_round cX4_round 5 (some .int)) 3 := ⟨⟨q_22_14, q_22_15, q_22_16, q_1_22, q_22_17⟩, rfl, by decide, by decide, by decide +kernel⟩
theorem gm_X6_182 : GV RX6 182 RX0 yX0_isKey (Cond.code yX0_isKey cX0_isKey 2 (some .boolean)) 1 := ⟨⟨q_23_2, q_23_3, q_23_4, q_1_14, q_23_5⟩, rfl, by decide, by decide, by decide +kernel⟩
theorem gm_X6_185 : GV RX6 185 RX0 yX0_lineAfter (Cond.code yX0_lineAfter cX0_lineAfter 3 (some .int)) 2 := ⟨⟨q_23_7, q_20_9, q_20_10, q_1_14, q_20_11⟩, rfl, by decide, by decide, by decide +kernel⟩
theorem gm_X6_188 : GV RX6 188 RX4 yX4_reachable (Cond.code yX4_reachable cX4_reachable 4 (some .int)) 3 := ⟨⟨q_24_4, q_24_5, q_24_6, q_1_22, q_24_7⟩, rfl, by decide, by decide, by decide +kernel⟩
theorem gm_X6_191 : GV RX6 191 RX6 yX6_readingsAreSo (Cond.code yX6_readingsAreSo cX6_readingsAreSo 3 (some .boolean)) 0 := ⟨⟨q_25_9, q_25_10, q_25_11, q_1_2, q_25_12⟩, rfl, by decide, by decide, by decide +kernel⟩
theorem gm_X6_197 : GS RX6 197 yX6_rowsToEmpty (Cond.code yX6_rowsToEmpty cX6_rowsToEmpty 4 (some .int)) 2 := ⟨⟨q_26_10, q_26_11, q_1_2, q_26_12⟩, by decide, by decide, by decide +kernel⟩
theorem gm_X6_200 : GV RX6 200 RX5 yX5_renew (Cond.code yX5_renew cX5_renew 3 none) 2 := ⟨⟨q_27_1, q_27_2, q_27_3, q_2_2, q_27_4⟩, rfl, by decide, by decide, by decide +kernel⟩
theorem gm_X6_207 : GV RX6 207 RX5 yX5_cut (Cond.code yX5_cut cX5_cut 2 (some .int)) 1 := ⟨⟨q_27_23, q_28_0, q_28_1, q_2_2, q_28_2⟩, rfl, by decide, by decide, by decide +kernel⟩
theorem gm_X6_210 : GV RX6 210 RX5 yX5_hasAll (Cond.code yX5_hasAll cX5_hasAll 3 (some .boolean)) 2 := ⟨⟨q_29_0, q_5_10, q_5_11, q_2_2, q_5_12⟩, rfl, by decide, by decide, by decide +kernel⟩
theorem gm_X6_220 : GV RX6 220 RX6 yX6_evenTells (Cond.code yX6_evenTells cX6_evenTells 3 (some .int)) 1 := ⟨⟨q_29_9, q_29_10, q_29_11, q_1_2, q_29_12⟩, rfl, by decide, by decide, by decide +kernel⟩
theorem gm_X6_224 : GV RX6 224 RX6 yX6_broadTells (Cond.code yX6_broadTells cX6_broadTells 2 (some .int)) 1 := ⟨⟨q_29_18, q_29_19, q_29_20, q_1_2, q_29_21⟩, rfl, by decide, by decide, by decide +kernel⟩
theorem gm_X6_227 : GV RX6 227 RX6 yX6_plainTells (Cond.code yX6_plainTells cX6_plainTells 2 (some .int)) 1 := ⟨⟨q_29_22, q_29_23, q_30_0, q_1_2, q_30_1⟩, rfl, by decide, by decide, by decide +kernel⟩
theorem gm_X6_230 : GV RX6 230 RX6 yX6_leave (Cond.code yX6_leave cX6_leave 2 none) 1 := ⟨⟨q_29_13, q_29_14, q_29_15, q_1_2, q_29_16⟩, rfl, by decide, by decide, by decide +kernel⟩
theorem gm_X6_55 : GV RX6 55 RX6 yX6_sheetOf (Cond.code yX6_sheetOf cX6_sheetOf 2 (some (.object "MacroKeys$Sheet"))) 1 := ⟨⟨q_4_22, q_4_23, q_5_0, q_1_2, q_5_1⟩, rfl, by decide, by decide, by decide +kernel⟩
theorem gm_X6_59 : GS RX6 59 yX6_isLane (Cond.code yX6_isLane cX6_isLane 1 (some .boolean)) 1 := ⟨⟨q_5_2, q_5_3, q_1_2, q_5_4⟩, by decide, by decide, by decide +kernel⟩
theorem gm_X6_63 : GV RX6 63 RX5 yX5_faultOf (Cond.code yX5_faultOf cX5_faultOf 4 (some .int)) 3 := ⟨⟨q_5_5, q_5_6, q_5_7, q_2_2, q_5_8⟩, rfl, by decide, by decide, by decide +kernel⟩
theorem gm_X6_67 : GV RX6 67 RX6 yX6_meet (Cond.code yX6_meet cX6_meet 2 (some .int)) 1 := ⟨⟨q_5_14, q_5_15, q_5_16, q_1_2, q_5_17⟩, rfl, by decide, by decide, by decide +kernel⟩
theorem gm_X6_71 : GV RX6 71 RX3 yX3_firstFault (Cond.code yX3_firstFault cX3_firstFault 5 (some .int)) 3 := ⟨⟨q_5_18, q_5_19, q_5_20, q_1_18, q_5_21⟩, rfl, by decide, by decide, by decide +kernel⟩
theorem gm_X6_75 : GV RX6 75 RX0 yX0_become (Cond.code yX0_become cX0_become 3 none) 1 := ⟨⟨q_7_13, q_7_14, q_7_15, q_1_14, q_7_16⟩, rfl, by decide, by decide, by decide +kernel⟩
theorem gm_X6_88 : GV RX6 88 RX0 yX0_macroOf (Cond.code yX0_macroOf cX0_macroOf 2 (some (.object "MacroKeys$Macro"))) 1 := ⟨⟨q_10_17, q_10_18, q_10_19, q_1_14, q_10_20⟩, rfl, by decide, by decide, by decide +kernel⟩
theorem gm_X7_105 : GV RX7 105 RX7 yX7_readMacrosAll (Cond.code yX7_readMacrosAll cX7_readMacrosAll 2 (some .boolean)) 1 := ⟨⟨q_9_23, q_10_0, q_10_1, q_1_5, q_10_2⟩, rfl, by decide, by decide, by decide +kernel⟩
theorem gm_X7_124 : GV RX7 124 RX7 yX7_readMacro (Cond.code yX7_readMacro cX7_readMacro 4 (some .boolean)) 2 := ⟨⟨q_10_3, q_10_4, q_10_5, q_1_5, q_10_6⟩, rfl, by decide, by decide, by decide +kernel⟩
theorem gm_X7_127 : GS RX7 127 yX7_keyBy (Cond.code yX7_keyBy cX7_keyBy 2 (some .int)) 2 := ⟨⟨q_10_7, q_10_8, q_1_5, q_10_9⟩, by decide, by decide, by decide +kernel⟩
theorem gm_X7_131 : GV RX7 131 RX7 yX7_oftenOf (Cond.code yX7_oftenOf cX7_oftenOf 2 (some .int)) 1 := ⟨⟨q_11_20, q_11_21, q_11_22, q_1_5, q_11_23⟩, rfl, by decide, by decide, by decide +kernel⟩
theorem gm_X7_134 : GV RX7 134 RX7 yX7_isMacro (Cond.code yX7_isMacro cX7_isMacro 2 (some .boolean)) 1 := ⟨⟨q_11_16, q_11_17, q_11_18, q_1_5, q_11_19⟩, rfl, by decide, by decide, by decide +kernel⟩
theorem gm_X7_137 : GV RX7 137 RX7 yX7_findPresses (Cond.code yX7_findPresses cX7_findPresses 5 none) 0 := ⟨⟨q_12_0, q_12_1, q_12_2, q_1_5, q_12_3⟩, rfl, by decide, by decide, by decide +kernel⟩
theorem gm_X7_143 : GS RX7 143 yX7_linesBelow (Cond.code yX7_linesBelow cX7_linesBelow 4 (some .int)) 1 := ⟨⟨q_14_10, q_14_11, q_1_5, q_14_12⟩, by decide, by decide, by decide +kernel⟩
theorem gm_X7_149 : GV RX7 149 RX7 yX7_types (Cond.code yX7_types cX7_types 3 (some .boolean)) 1 := ⟨⟨q_14_22, q_14_23, q_15_0, q_1_5, q_15_1⟩, rfl, by decide, by decide, by decide +kernel⟩
theorem gm_X7_152 : GV RX7 152 RX7 yX7_takes (Cond.code yX7_takes cX7_takes 2 (some .boolean)) 0 := ⟨⟨q_15_2, q_15_3, q_15_4, q_1_5, q_15_5⟩, rfl, by decide, by decide, by decide +kernel⟩
theorem gm_X7_156 : GV RX7 156 RX7 yX7_does (Cond.code yX7_does cX7_does 3 (some .boolean)) 1 := ⟨⟨q_14_18, q_14_19, q_14_20, q_1_5, q_14_21⟩, rfl, by decide, by decide, by decide +kernel⟩
theorem gm_X7_162 : GV RX7 162 RX7 yX7_presses (Cond.code yX7_presses cX7_presses 3 (some .boolean)) 1 := ⟨⟨q_14_13, q_14_14, q_14_15, q_1_5, q_14_16⟩, rfl, by decide, by decide, by decide +kernel⟩
theorem gm_X7_165 : GV RX7 165 RX7 yX7_workOn (Cond.code yX7_workOn cX7_workOn 4 none) 1 := ⟨⟨q_14_4, q_14_5, q_14_6, q_1_5, q_14_7⟩, rfl, by decide, by decide, by decide +kernel⟩
theorem gm_X7_169 : GV RX7 169 RX7 yX7_lineNumber (Cond.code yX7_lineNumber cX7_lineNumber 3 (some .int)) 0 := ⟨⟨q_15_6, q_15_7, q_15_8, q_1_5, q_15_9⟩, rfl, by decide, by decide, by decide +kernel⟩
theorem gm_X7_173 : GV RX7 173 RX7 yX7_plays (Cond.code yX7_plays cX7_plays 5 none) 1 := ⟨⟨q_16_14, q_16_15, q_16_16, q_1_5, q_16_17⟩, rfl, by decide, by decide, by decide +kernel⟩
theorem gm_X7_179 : GV RX7 179 RX7 yX7_goRow (Cond.code yX7_goRow cX7_goRow 5 none) 2 := ⟨⟨q_18_21, q_18_22, q_18_23, q_1_5, q_19_0⟩, rfl, by decide, by decide, by decide +kernel⟩
theorem gm_X7_183 : GV RX7 183 RX7 yX7_tellRow (Cond.code yX7_tellRow cX7_tellRow 4 (some .int)) 1 := ⟨⟨q_19_2, q_19_3, q_19_4, q_1_5, q_19_5⟩, rfl, by decide, by decide, by decide +kernel⟩
theorem gm_X7_186 : GV RX7 186 RX7 yX7_keysThere (Cond.code yX7_keysThere cX7_keysThere 1 (some .int)) 0 := ⟨⟨q_21_18, q_21_19, q_21_20, q_1_5, q_21_21⟩, rfl, by decide, by decide, by decide +kernel⟩
theorem gm_X7_192 : GV RX7 192 RX7 yX7_madeBy (Cond.code yX7_madeBy cX7_madeBy 7 (some .int)) 2 := ⟨⟨q_21_6, q_21_7, q_21_8, q_1_5, q_21_9⟩, rfl, by decide, by decide, by decide +kernel⟩
theorem gm_X7_195 : GV RX7 195 RX7 yX7_hasTold (Cond.code yX7_hasTold cX7_hasTold 5 (some .boolean)) 2 := ⟨⟨q_21_14, q_21_15, q_21_16, q_1_5, q_21_17⟩, rfl, by decide, by decide, by decide +kernel⟩
theorem gm_X7_198 : GV RX7 198 RX7 yX7_findMakes (Cond.code yX7_findMakes cX7_findMakes 3 none) 0 := ⟨⟨q_21_1, q_21_2, q_21_3, q_1_5, q_21_4⟩, rfl, by decide, by decide, by decide +kernel⟩
theorem gm_X7_201 : GV RX7 201 RX7 yX7_findFar (Cond.code yX7_findFar cX7_findFar 8 none) 2 := ⟨⟨q_21_10, q_21_11, q_21_12, q_1_5, q_21_13⟩, rfl, by decide, by decide, by decide +kernel⟩
theorem gm_X7_204 : GV RX7 204 RX7 yX7_isKey (Cond.code yX7_isKey cX7_isKey 2 (some .boolean)) 1 := ⟨⟨q_23_12, q_23_13, q_23_14, q_1_5, q_23_15⟩, rfl, by decide, by decide, by decide +kernel⟩
theorem gm_X7_207 : GV RX7 207 RX7 yX7_areSo (Cond.code yX7_areSo cX7_areSo 2 (some .boolean)) 0 := ⟨⟨q_25_17, q_25_18, q_25_19, q_1_5, q_25_20⟩, rfl, by decide, by decide, by decide +kernel⟩
theorem gm_X7_210 : GS RX7 210 yX7_inLeastTerms (Cond.code yX7_inLeastTerms cX7_inLeastTerms 11 (some .long)) 3 := ⟨⟨q_26_18, q_26_19, q_1_5, q_26_20⟩, by decide, by decide, by decide +kernel⟩
theorem gm_X7_214 : GV RX7 214 RX7 yX7_lost (Cond.code yX7_lost cX7_lost 2 (some .long)) 1 := ⟨⟨q_28_15, q_28_16, q_28_17, q_1_5, q_28_18⟩, rfl, by decide, by decide, by decide +kernel⟩
theorem gm_X7_221 : GV RX7 221 RX7 yX7_begins (Cond.code yX7_begins cX7_begins 2 none) 1 := ⟨⟨q_30_6, q_30_7, q_30_8, q_1_5, q_30_9⟩, rfl, by decide, by decide, by decide +kernel⟩
theorem gm_X7_80 : GS RX7 80 yX7_within (Cond.code yX7_within cX7_within 3 (some .boolean)) 3 := ⟨⟨q_9_9, q_9_10, q_1_5, q_9_11⟩, by decide, by decide, by decide +kernel⟩
theorem gm_X7_87 : GS RX7 87 yX7_isSheet (Cond.code yX7_isSheet cX7_isSheet 1 (some .boolean)) 1 := ⟨⟨q_9_6, q_9_7, q_1_5, q_9_8⟩, by decide, by decide, by decide +kernel⟩
theorem gm_X7_91 : GS RX7 91 yX7_isSort (Cond.code yX7_isSort cX7_isSort 1 (some .boolean)) 1 := ⟨⟨q_9_12, q_9_13, q_1_5, q_9_14⟩, by decide, by decide, by decide +kernel⟩
theorem gm_X7_94 : GV RX7 94 RX7 yX7_against (Cond.code yX7_against cX7_against 5 (some .int)) 4 := ⟨⟨q_9_15, q_9_16, q_9_17, q_1_5, q_9_18⟩, rfl, by decide, by decide, by decide +kernel⟩
theorem gm_X7_98 : GV RX7 98 RX7 yX7_fails (Cond.code yX7_fails cX7_fails 2 (some .int)) 1 := ⟨⟨q_9_19, q_9_20, q_9_21, q_1_5, q_9_22⟩, rfl, by decide, by decide, by decide +kernel⟩
theorem ac_X2_25 : Cond.methodLink RX2 25 arraycopyName ∈ wsL_law ∧ Cond.native arraycopyName ∈ wsL_law ∧ Cond.static arraycopyName ∈ wsL_law ∧ Cond.initialized "java/lang/System" ∈ wsL_law := ⟨q_8_3, q_8_4, q_8_5, q_8_6⟩
theorem ac_X6_214 : Cond.methodLink RX6 214 arraycopyName ∈ wsL_law ∧ Cond.native arraycopyName ∈ wsL_law ∧ Cond.static arraycopyName ∈ wsL_law ∧ Cond.initialized "java/lang/System" ∈ wsL_law := ⟨q_28_23, q_8_4, q_8_5, q_8_6⟩
