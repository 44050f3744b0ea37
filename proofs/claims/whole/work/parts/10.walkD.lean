set_option maxRecDepth 100000 in
set_option maxHeartbeats 4000000 in
theorem w_X7_linesBelow_6 {p : Program} {l : Launch} {e : Env} {s : State} {m : MethodId} {args : Array Value} {below : List Frame} {meth : Method} {c : Code} {E : Ev} {r : Int32} {S1 : St} (X : GX p s m meth c args cX7_linesBelow 4 (some .int) RX7 E) (N : Nat) : ∀ (n : Nat) (S : St) (x0 : Int32) (x1 : Int32) (x2 : Int32) (x3 : Int32), f_X7_linesBelow_6 N n S x0 x1 x2 x3 = some (r, S1) → ∀ (H : Heap) (locs : List Loc), HH E S s H locs → ∀ ls : Array Slot, lv_has ls 4 [(0, .int x0), (1, .int x1), (2, .int x2), (3, .int x3)] → W p l e (rmL 1) s m args below meth c H locs 0 0 (MQ below (QI E r S1 s.heap.size) args s 0 0 (AA E s.heap.size)) (F0 m 6 ls []) := by
  have hx := X.1
  have hb := X.2.1
  intro n
  induction n with
  | zero =>
    intro S x0 x1 x2 x3 hf
    cases hf
  | succ n ih =>
    intro S x0 x1 x2 x3 hf H locs hH ls hl
    rw [f_X7_linesBelow_6] at hf
    refine lv_iload_n hx hb dX7_linesBelow_6 rfl (lv_at hl 3 rfl) ?_
    refine lv_iload_n hx hb dX7_linesBelow_7 rfl (lv_at hl 0 rfl) ?_
    refine lv_icmp_ge (tgt := 29) hx hb dX7_linesBelow_8 (by decide) (fun c0 => ?_) (fun c0 => ?_)
    · replace hf := ite_t c0 hf
      refine lv_iload_n hx hb dX7_linesBelow_29 rfl (lv_at hl 1 rfl) ?_
      exact r_iret X hH hf dX7_linesBelow_30
    · replace hf := ite_f c0 hf
      refine lv_iload_n hx hb dX7_linesBelow_11 rfl (lv_at hl 1 rfl) ?_
      refine lv_iload_n hx hb dX7_linesBelow_12 rfl (lv_at hl 2 rfl) ?_
      refine lv_iload_n hx hb dX7_linesBelow_13 rfl (lv_at hl 3 rfl) ?_
      refine lv_iconst (v := (nI 1)) hx hb dX7_linesBelow_14 (by decide) ?_
      refine lv_iadd hx hb dX7_linesBelow_15 ?_
      refine lv_imul hx hb dX7_linesBelow_16 ?_
      refine lv_iadd hx hb dX7_linesBelow_17 ?_
      refine lv_topi (fun y1 ex => ?_)
      replace hf := bnd_at ex hf
      clear ex
      refine lv_istore_n (lv' := [(1, .int y1), (0, .int x0), (2, .int x2), (3, .int x3)]) hx hb dX7_linesBelow_18 rfl hl (by decide) rfl (fun ls hl => ?_)
      refine lv_iload_n hx hb dX7_linesBelow_19 rfl (lv_at hl 2 rfl) ?_
      refine lv_iconst (v := (nI 4)) hx hb dX7_linesBelow_20 (by decide) ?_
      refine lv_imul hx hb dX7_linesBelow_21 ?_
      refine lv_topi (fun y2 ex => ?_)
      replace hf := bnd_at ex hf
      clear ex
      refine lv_istore_n (lv' := [(2, .int y2), (1, .int y1), (0, .int x0), (3, .int x3)]) hx hb dX7_linesBelow_22 rfl hl (by decide) rfl (fun ls hl => ?_)
      obtain ⟨y3, ex, hf⟩ := bnd_go hf
      refine lv_iinc (v := y3) (lv' := [(3, .int y3), (2, .int y2), (1, .int y1), (0, .int x0)]) hx hb dX7_linesBelow_23 hl (k := 3) rfl (by rw [ex]; rfl) (by decide) rfl (fun ls hl => ?_)
      clear ex
      refine lv_goto (tgt := 6) hx hb dX7_linesBelow_26 (by decide) ?_
      exact ih S x0 y1 y2 y3 hf _ _ hH _ (lv_sub hl [3, 2, 1, 0] rfl)
set_option maxRecDepth 100000 in
set_option maxHeartbeats 4000000 in
theorem w_X7_linesBelow_0 {p : Program} {l : Launch} {e : Env} {s : State} {m : MethodId} {args : Array Value} {below : List Frame} {meth : Method} {c : Code} {E : Ev} {r : Int32} {S1 : St} (X : GX p s m meth c args cX7_linesBelow 4 (some .int) RX7 E) (N : Nat) : ∀ (S : St) (x0 : Int32), f_X7_linesBelow N S x0 = some (r, S1) → ∀ (H : Heap) (locs : List Loc), HH E S s H locs → ∀ ls : Array Slot, lv_has ls 4 [(0, .int x0)] → W p l e (rmL 1) s m args below meth c H locs 0 0 (MQ below (QI E r S1 s.heap.size) args s 0 0 (AA E s.heap.size)) (F0 m 0 ls []) := by
  have hx := X.1
  have hb := X.2.1
  intro S x0 hf H locs hH ls hl
  rw [f_X7_linesBelow] at hf
  refine lv_iconst (v := (nI 0)) hx hb dX7_linesBelow_0 (by decide) ?_
  refine lv_topi (fun y1 ex => ?_)
  replace hf := bnd_at ex hf
  clear ex
  refine lv_istore_n (lv' := [(1, .int y1), (0, .int x0)]) hx hb dX7_linesBelow_1 rfl hl (by decide) rfl (fun ls hl => ?_)
  refine lv_iconst (v := (nI 1)) hx hb dX7_linesBelow_2 (by decide) ?_
  refine lv_topi (fun y2 ex => ?_)
  replace hf := bnd_at ex hf
  clear ex
  refine lv_istore_n (lv' := [(2, .int y2), (1, .int y1), (0, .int x0)]) hx hb dX7_linesBelow_3 rfl hl (by decide) rfl (fun ls hl => ?_)
  refine lv_iconst (v := (nI 0)) hx hb dX7_linesBelow_4 (by decide) ?_
  refine lv_topi (fun y3 ex => ?_)
  replace hf := bnd_at ex hf
  clear ex
  refine lv_istore_n (lv' := [(3, .int y3), (2, .int y2), (1, .int y1), (0, .int x0)]) hx hb dX7_linesBelow_5 rfl hl (by decide) rfl (fun ls hl => ?_)
  exact w_X7_linesBelow_6 X N N S x0 y1 y2 y3 hf _ _ hH _ (lv_sub hl [3, 2, 1, 0] rfl)
theorem c_X7_linesBelow {l : Launch} {E : Ev} (N : Nat) (S : St) (x0 : Int32) {r : Int32} {S1 : St} (hf : f_X7_linesBelow N S x0 = some (r, S1)) : Ct l yX7_linesBelow (.code yX7_linesBelow cX7_linesBelow 4 (some .int)) 1 E [.int x0] S (QI E r S1) := by
  refine Ct.of (by decide) (Nat.le_of_ble_eq_true rfl) (fun p e s m below meth c ls X hH hl => ?_)
  exact w_X7_linesBelow_0 X N S x0 hf _ _ hH _ hl
set_option maxRecDepth 100000 in
set_option maxHeartbeats 4000000 in
theorem w_X7_lineNumber_4 {p : Program} {l : Launch} {e : Env} {s : State} {m : MethodId} {args : Array Value} {below : List Frame} {meth : Method} {c : Code} {E : Ev} {r : Int32} {S1 : St} (X : GX p s m meth c args cX7_lineNumber 3 (some .int) RX7 E) (N : Nat) : ∀ (n : Nat) (S : St) (x1 : Int32) (x2 : Int32), f_X7_lineNumber_4 N n S x1 x2 = some (r, S1) → ∀ (H : Heap) (locs : List Loc), HH E S s H locs → ∀ ls : Array Slot, lv_has ls 3 [(0, .ref (bb E 32)), (1, .int x1), (2, .int x2)] → W p l e (rmL 2) s m args below meth c H locs 0 0 (MQ below (QI E r S1 s.heap.size) args s 0 0 (AA E s.heap.size)) (F0 m 4 ls []) := by
  have hx := X.1
  have hb := X.2.1
  intro n
  induction n with
  | zero =>
    intro S x1 x2 hf
    cases hf
  | succ n ih =>
    intro S x1 x2 hf H locs hH ls hl
    rw [f_X7_lineNumber_4] at hf
    refine lv_iload_n hx hb dX7_lineNumber_4 rfl (lv_at hl 2 rfl) ?_
    refine lv_aload_n hx hb dX7_lineNumber_5 rfl (lv_at hl 0 rfl) ?_
    refine fg_X7_140 X hH dX7_lineNumber_6 ?_
    refine lv_icmp_ge (tgt := 29) hx hb dX7_lineNumber_9 (by decide) (fun c0 => ?_) (fun c0 => ?_)
    · replace hf := ite_t c0 hf
      refine lv_aload_n hx hb dX7_lineNumber_29 rfl (lv_at hl 0 rfl) ?_
      refine fg_X7_140 X hH dX7_lineNumber_30 ?_
      obtain ⟨r3, S1, h2, hf⟩ := cal_g hf
      refine go_i hH (run_S X hH (rest := []) (c_X7_linesBelow N S (S 32 20) h2) gm_X7_143 rfl hl.1 (rmL_ok (by decide) (by decide)) (Nat.le_of_ble_eq_true rfl) rfl dX7_lineNumber_33) (fun H locs hH => ?_)
      clear h2
      refine lv_iload_n hx hb dX7_lineNumber_36 rfl (lv_at hl 1 rfl) ?_
      refine lv_aload_n hx hb dX7_lineNumber_37 rfl (lv_at hl 0 rfl) ?_
      refine fg_X7_140 X hH dX7_lineNumber_38 ?_
      refine lv_iconst (v := (nI 1)) hx hb dX7_lineNumber_41 (by decide) ?_
      refine lv_iadd hx hb dX7_lineNumber_42 ?_
      refine lv_imul hx hb dX7_lineNumber_43 ?_
      refine lv_iadd hx hb dX7_lineNumber_44 ?_
      refine lv_aload_n hx hb dX7_lineNumber_45 rfl (lv_at hl 0 rfl) ?_
      refine fg_X7_146 X hH dX7_lineNumber_46 ?_
      refine lv_iadd hx hb dX7_lineNumber_49 ?_
      exact r_iret X hH hf dX7_lineNumber_50
    · replace hf := ite_f c0 hf
      refine lv_iconst (v := (nI 4)) hx hb dX7_lineNumber_12 (by decide) ?_
      refine lv_iload_n hx hb dX7_lineNumber_13 rfl (lv_at hl 1 rfl) ?_
      refine lv_imul hx hb dX7_lineNumber_14 ?_
      refine lv_aload_n hx hb dX7_lineNumber_15 rfl (lv_at hl 0 rfl) ?_
      refine fg_X7_46 X hH dX7_lineNumber_16 ?_
      refine lv_iload_n hx hb dX7_lineNumber_19 rfl (lv_at hl 2 rfl) ?_
      obtain ⟨g, hf⟩ := ite_g hf
      refine r_iald X hH (a_45 E) g dX7_lineNumber_20 ?_
      refine lv_iadd hx hb dX7_lineNumber_21 ?_
      refine lv_topi (fun y4 ex => ?_)
      replace hf := bnd_at ex hf
      clear ex
      refine lv_istore_n (lv' := [(1, .int y4), (0, .ref (bb E 32)), (2, .int x2)]) hx hb dX7_lineNumber_22 rfl hl (by decide) rfl (fun ls hl => ?_)
      obtain ⟨y5, ex, hf⟩ := bnd_go hf
      refine lv_iinc (v := y5) (lv' := [(2, .int y5), (1, .int y4), (0, .ref (bb E 32))]) hx hb dX7_lineNumber_23 hl (k := 2) rfl (by rw [ex]; rfl) (by decide) rfl (fun ls hl => ?_)
      clear ex
      refine lv_goto (tgt := 4) hx hb dX7_lineNumber_26 (by decide) ?_
      exact ih S y4 y5 hf _ _ hH _ (lv_sub hl [2, 1, 0] rfl)
set_option maxRecDepth 100000 in
set_option maxHeartbeats 4000000 in
theorem w_X7_lineNumber_0 {p : Program} {l : Launch} {e : Env} {s : State} {m : MethodId} {args : Array Value} {below : List Frame} {meth : Method} {c : Code} {E : Ev} {r : Int32} {S1 : St} (X : GX p s m meth c args cX7_lineNumber 3 (some .int) RX7 E) (N : Nat) : ∀ (S : St), f_X7_lineNumber N S = some (r, S1) → ∀ (H : Heap) (locs : List Loc), HH E S s H locs → ∀ ls : Array Slot, lv_has ls 3 [(0, .ref (bb E 32))] → W p l e (rmL 2) s m args below meth c H locs 0 0 (MQ below (QI E r S1 s.heap.size) args s 0 0 (AA E s.heap.size)) (F0 m 0 ls []) := by
  have hx := X.1
  have hb := X.2.1
  intro S hf H locs hH ls hl
  rw [f_X7_lineNumber] at hf
  refine lv_iconst (v := (nI 0)) hx hb dX7_lineNumber_0 (by decide) ?_
  refine lv_topi (fun y1 ex => ?_)
  replace hf := bnd_at ex hf
  clear ex
  refine lv_istore_n (lv' := [(1, .int y1), (0, .ref (bb E 32))]) hx hb dX7_lineNumber_1 rfl hl (by decide) rfl (fun ls hl => ?_)
  refine lv_iconst (v := (nI 0)) hx hb dX7_lineNumber_2 (by decide) ?_
  refine lv_topi (fun y2 ex => ?_)
  replace hf := bnd_at ex hf
  clear ex
  refine lv_istore_n (lv' := [(2, .int y2), (1, .int y1), (0, .ref (bb E 32))]) hx hb dX7_lineNumber_3 rfl hl (by decide) rfl (fun ls hl => ?_)
  exact w_X7_lineNumber_4 X N N S y1 y2 hf _ _ hH _ (lv_sub hl [2, 1, 0] rfl)
theorem c_X7_lineNumber {l : Launch} {E : Ev} (N : Nat) (S : St) {r : Int32} {S1 : St} (hf : f_X7_lineNumber N S = some (r, S1)) : Ct l yX7_lineNumber (.code yX7_lineNumber cX7_lineNumber 3 (some .int)) 2 E [.ref (bb E 32)] S (QI E r S1) := by
  refine Ct.of (by decide) (Nat.le_of_ble_eq_true rfl) (fun p e s m below meth c ls X hH hl => ?_)
  exact w_X7_lineNumber_0 X N S hf _ _ hH _ hl
set_option maxRecDepth 100000 in
set_option maxHeartbeats 4000000 in
theorem w_X7_oftenOf_0 {p : Program} {l : Launch} {e : Env} {s : State} {m : MethodId} {args : Array Value} {below : List Frame} {meth : Method} {c : Code} {E : Ev} {r : Int32} {S1 : St} (X : GX p s m meth c args cX7_oftenOf 2 (some .int) RX7 E) (N : Nat) : ∀ (S : St) (x1 : Int32), f_X7_oftenOf N S x1 = some (r, S1) → ∀ (H : Heap) (locs : List Loc), HH E S s H locs → ∀ ls : Array Slot, lv_has ls 2 [(0, .ref (bb E 32)), (1, .int x1)] → W p l e (rmL 1) s m args below meth c H locs 0 0 (MQ below (QI E r S1 s.heap.size) args s 0 0 (AA E s.heap.size)) (F0 m 0 ls []) := by
  have hx := X.1
  have hb := X.2.1
  intro S x1 hf H locs hH ls hl
  rw [f_X7_oftenOf] at hf
  refine lv_aload_n hx hb dX7_oftenOf_0 rfl (lv_at hl 0 rfl) ?_
  refine fg_X7_19 X hH dX7_oftenOf_1 ?_
  refine lv_iload_n hx hb dX7_oftenOf_4 rfl (lv_at hl 1 rfl) ?_
  obtain ⟨g, hf⟩ := ite_g hf
  refine r_iald X hH (a_36 E) g dX7_oftenOf_5 ?_
  refine lv_if_ne (tgt := 18) hx hb dX7_oftenOf_6 (by decide) (fun c0 => ?_) (fun c0 => ?_)
  · replace hf := ite_f c0 hf
    refine lv_aload_n hx hb dX7_oftenOf_18 rfl (lv_at hl 0 rfl) ?_
    refine fg_X7_19 X hH dX7_oftenOf_19 ?_
    refine lv_iload_n hx hb dX7_oftenOf_22 rfl (lv_at hl 1 rfl) ?_
    obtain ⟨g, hf⟩ := ite_g hf
    refine r_iald X hH (a_36 E) g dX7_oftenOf_23 ?_
    refine lv_iconst (v := (nI 1)) hx hb dX7_oftenOf_24 (by decide) ?_
    refine lv_icmp_ne (tgt := 39) hx hb dX7_oftenOf_25 (by decide) (fun c0 => ?_) (fun c0 => ?_)
    · replace hf := ite_f c0 hf
      refine lv_iconst (v := (nI 2)) hx hb dX7_oftenOf_39 (by decide) ?_
      refine lv_aload_n hx hb dX7_oftenOf_40 rfl (lv_at hl 0 rfl) ?_
      refine fg_X7_22 X hH dX7_oftenOf_41 ?_
      refine lv_iload_n hx hb dX7_oftenOf_44 rfl (lv_at hl 1 rfl) ?_
      obtain ⟨g, hf⟩ := ite_g hf
      refine r_iald X hH (a_37 E) g dX7_oftenOf_45 ?_
      refine lv_imul hx hb dX7_oftenOf_46 ?_
      exact r_iret X hH hf dX7_oftenOf_47
    · replace hf := ite_t c0 hf
      refine lv_aload_n hx hb dX7_oftenOf_28 rfl (lv_at hl 0 rfl) ?_
      refine fg_X7_22 X hH dX7_oftenOf_29 ?_
      refine lv_iload_n hx hb dX7_oftenOf_32 rfl (lv_at hl 1 rfl) ?_
      obtain ⟨g, hf⟩ := ite_g hf
      refine r_iald X hH (a_37 E) g dX7_oftenOf_33 ?_
      refine lv_iconst (v := (nI 1)) hx hb dX7_oftenOf_34 (by decide) ?_
      refine lv_iadd hx hb dX7_oftenOf_35 ?_
      refine lv_goto (tgt := 47) hx hb dX7_oftenOf_36 (by decide) ?_
      exact r_iret X hH hf dX7_oftenOf_47
  · replace hf := ite_t c0 hf
    refine lv_aload_n hx hb dX7_oftenOf_9 rfl (lv_at hl 0 rfl) ?_
    refine fg_X7_22 X hH dX7_oftenOf_10 ?_
    refine lv_iload_n hx hb dX7_oftenOf_13 rfl (lv_at hl 1 rfl) ?_
    obtain ⟨g, hf⟩ := ite_g hf
    refine r_iald X hH (a_37 E) g dX7_oftenOf_14 ?_
    refine lv_goto (tgt := 47) hx hb dX7_oftenOf_15 (by decide) ?_
    exact r_iret X hH hf dX7_oftenOf_47
theorem c_X7_oftenOf {l : Launch} {E : Ev} (N : Nat) (S : St) (x1 : Int32) {r : Int32} {S1 : St} (hf : f_X7_oftenOf N S x1 = some (r, S1)) : Ct l yX7_oftenOf (.code yX7_oftenOf cX7_oftenOf 2 (some .int)) 1 E [.ref (bb E 32), .int x1] S (QI E r S1) := by
  refine Ct.of (by decide) (Nat.le_of_ble_eq_true rfl) (fun p e s m below meth c ls X hH hl => ?_)
  exact w_X7_oftenOf_0 X N S x1 hf _ _ hH _ hl
set_option maxRecDepth 100000 in
set_option maxHeartbeats 4000000 in
theorem w_X7_madeBy_22 {p : Program} {l : Launch} {e : Env} {s : State} {m : MethodId} {args : Array Value} {below : List Frame} {meth : Method} {c : Code} {E : Ev} {r : Int32} {S1 : St} (X : GX p s m meth c args cX7_madeBy 7 (some .int) RX7 E) (N : Nat) (k12 : St → Int32 → Int32 → Int32 → Int32 → Option (Int32 × St)) (hk12 : ∀ (S : St) (x1 : Int32) (x3 : Int32) (x4 : Int32) (x5 : Int32), k12 S x1 x3 x4 x5 = some (r, S1) → ∀ (H : Heap) (locs : List Loc), HH E S s H locs → ∀ ls : Array Slot, lv_has ls 7 [(0, .ref (bb E 32)), (1, .int x1), (3, .int x3), (4, .int x4), (5, .int x5)] → W p l e (rmL 2) s m args below meth c H locs 0 0 (MQ below (QI E r S1 s.heap.size) args s 0 0 (AA E s.heap.size)) (F0 m 12 ls [])) : ∀ (n : Nat) (S : St) (x1 : Int32) (x3 : Int32) (x4 : Int32) (x5 : Int32) (x6 : Int32), f_X7_madeBy_22 N k12 n S x1 x3 x4 x5 x6 = some (r, S1) → ∀ (H : Heap) (locs : List Loc), HH E S s H locs → ∀ ls : Array Slot, lv_has ls 7 [(0, .ref (bb E 32)), (1, .int x1), (3, .int x3), (4, .int x4), (5, .int x5), (6, .int x6)] → W p l e (rmL 2) s m args below meth c H locs 0 0 (MQ below (QI E r S1 s.heap.size) args s 0 0 (AA E s.heap.size)) (F0 m 22 ls []) := by
  have hx := X.1
  have hb := X.2.1
  intro n
  induction n with
  | zero =>
    intro S x1 x3 x4 x5 x6 hf
    cases hf
  | succ n ih =>
    intro S x1 x3 x4 x5 x6 hf H locs hH ls hl
    rw [f_X7_madeBy_22] at hf
    refine lv_iload hx hb dX7_madeBy_22 (lv_at hl 5 rfl) ?_
    refine lv_aload_n hx hb dX7_madeBy_24 rfl (lv_at hl 0 rfl) ?_
    refine fg_X7_25 X hH dX7_madeBy_25 ?_
    refine lv_iload_n hx hb dX7_madeBy_28 rfl (lv_at hl 1 rfl) ?_
    obtain ⟨g, hf⟩ := ite_g hf
    refine r_iald X hH (a_38 E) g dX7_madeBy_29 ?_
    refine lv_icmp_ge (tgt := 62) hx hb dX7_madeBy_30 (by decide) (fun c0 => ?_) (fun c0 => ?_)
    · replace hf := ite_t c0 hf
      obtain ⟨y1, ex, hf⟩ := bnd_go hf
      refine lv_iinc (v := y1) (lv' := [(5, .int y1), (0, .ref (bb E 32)), (1, .int x1), (3, .int x3), (4, .int x4), (6, .int x6)]) hx hb dX7_madeBy_62 hl (k := 4) rfl (by rw [ex]; rfl) (by decide) rfl (fun ls hl => ?_)
      clear ex
      refine lv_goto (tgt := 12) hx hb dX7_madeBy_65 (by decide) ?_
      exact hk12 S x1 x3 x4 y1 hf _ _ hH _ (lv_sub hl [1, 2, 3, 4, 0] rfl)
    · replace hf := ite_f c0 hf
      refine lv_aload_n hx hb dX7_madeBy_33 rfl (lv_at hl 0 rfl) ?_
      refine fg_X7_59 X hH dX7_madeBy_34 ?_
      refine lv_sipush (v := (nI 7737)) hx hb dX7_madeBy_37 (by decide) ?_
      refine lv_aload_n hx hb dX7_madeBy_40 rfl (lv_at hl 0 rfl) ?_
      refine fg_X7_28 X hH dX7_madeBy_41 ?_
      refine lv_iconst (v := (nI 4)) hx hb dX7_madeBy_44 (by decide) ?_
      refine lv_iload_n hx hb dX7_madeBy_45 rfl (lv_at hl 1 rfl) ?_
      refine lv_imul hx hb dX7_madeBy_46 ?_
      refine lv_iload hx hb dX7_madeBy_47 (lv_at hl 5 rfl) ?_
      refine lv_iadd hx hb dX7_madeBy_49 ?_
      obtain ⟨g, hf⟩ := ite_g hf
      refine r_iald X hH (a_39 E) g dX7_madeBy_50 ?_
      refine lv_imul hx hb dX7_madeBy_51 ?_
      refine lv_iload_n hx hb dX7_madeBy_52 rfl (lv_at hl 2 rfl) ?_
      refine lv_iadd hx hb dX7_madeBy_53 ?_
      obtain ⟨g, hf⟩ := ite_g hf
      refine r_iald X hH (a_49 E) g dX7_madeBy_54 ?_
      refine lv_topi (fun y2 ex => ?_)
      replace hf := bnd_at ex hf
      clear ex
      refine lv_istore_n (lv' := [(3, .int y2), (0, .ref (bb E 32)), (1, .int x1), (4, .int x4), (5, .int x5), (6, .int x6)]) hx hb dX7_madeBy_55 rfl hl (by decide) rfl (fun ls hl => ?_)
      obtain ⟨y3, ex, hf⟩ := bnd_go hf
      refine lv_iinc (v := y3) (lv' := [(6, .int y3), (3, .int y2), (0, .ref (bb E 32)), (1, .int x1), (4, .int x4), (5, .int x5)]) hx hb dX7_madeBy_56 hl (k := 5) rfl (by rw [ex]; rfl) (by decide) rfl (fun ls hl => ?_)
      clear ex
      refine lv_goto (tgt := 22) hx hb dX7_madeBy_59 (by decide) ?_
      exact ih S x1 y2 x4 x5 y3 hf _ _ hH _ (lv_sub hl [2, 3, 1, 4, 5, 0] rfl)
set_option maxRecDepth 100000 in
set_option maxHeartbeats 4000000 in
theorem w_X7_madeBy_12 {p : Program} {l : Launch} {e : Env} {s : State} {m : MethodId} {args : Array Value} {below : List Frame} {meth : Method} {c : Code} {E : Ev} {r : Int32} {S1 : St} (X : GX p s m meth c args cX7_madeBy 7 (some .int) RX7 E) (N : Nat) : ∀ (n : Nat) (S : St) (x1 : Int32) (x3 : Int32) (x4 : Int32) (x5 : Int32), f_X7_madeBy_12 N n S x1 x3 x4 x5 = some (r, S1) → ∀ (H : Heap) (locs : List Loc), HH E S s H locs → ∀ ls : Array Slot, lv_has ls 7 [(0, .ref (bb E 32)), (1, .int x1), (3, .int x3), (4, .int x4), (5, .int x5)] → W p l e (rmL 2) s m args below meth c H locs 0 0 (MQ below (QI E r S1 s.heap.size) args s 0 0 (AA E s.heap.size)) (F0 m 12 ls []) := by
  have hx := X.1
  have hb := X.2.1
  intro n
  induction n with
  | zero =>
    intro S x1 x3 x4 x5 hf
    cases hf
  | succ n ih =>
    intro S x1 x3 x4 x5 hf H locs hH ls hl
    rw [f_X7_madeBy_12] at hf
    refine lv_iload hx hb dX7_madeBy_12 (lv_at hl 4 rfl) ?_
    refine lv_iload hx hb dX7_madeBy_14 (lv_at hl 3 rfl) ?_
    refine lv_icmp_ge (tgt := 68) hx hb dX7_madeBy_16 (by decide) (fun c0 => ?_) (fun c0 => ?_)
    · replace hf := ite_t c0 hf
      refine lv_iload_n hx hb dX7_madeBy_68 rfl (lv_at hl 2 rfl) ?_
      exact r_iret X hH hf dX7_madeBy_69
    · replace hf := ite_f c0 hf
      refine lv_iconst (v := (nI 0)) hx hb dX7_madeBy_19 (by decide) ?_
      refine lv_topi (fun y1 ex => ?_)
      replace hf := bnd_at ex hf
      clear ex
      refine lv_istore (lv' := [(6, .int y1), (0, .ref (bb E 32)), (1, .int x1), (3, .int x3), (4, .int x4), (5, .int x5)]) hx hb dX7_madeBy_20 hl (by decide) rfl (fun ls hl => ?_)
      exact w_X7_madeBy_22 X N (f_X7_madeBy_12 N n) ih N S x1 x3 x4 x5 y1 hf _ _ hH _ (lv_sub hl [1, 2, 3, 4, 5, 0] rfl)
set_option maxRecDepth 100000 in
set_option maxHeartbeats 4000000 in
theorem w_X7_madeBy_0 {p : Program} {l : Launch} {e : Env} {s : State} {m : MethodId} {args : Array Value} {below : List Frame} {meth : Method} {c : Code} {E : Ev} {r : Int32} {S1 : St} (X : GX p s m meth c args cX7_madeBy 7 (some .int) RX7 E) (N : Nat) : ∀ (S : St) (x1 : Int32) (x2 : Int32), f_X7_madeBy N S x1 x2 = some (r, S1) → ∀ (H : Heap) (locs : List Loc), HH E S s H locs → ∀ ls : Array Slot, lv_has ls 7 [(0, .ref (bb E 32)), (1, .int x1), (2, .int x2)] → W p l e (rmL 2) s m args below meth c H locs 0 0 (MQ below (QI E r S1 s.heap.size) args s 0 0 (AA E s.heap.size)) (F0 m 0 ls []) := by
  have hx := X.1
  have hb := X.2.1
  intro S x1 x2 hf H locs hH ls hl
  rw [f_X7_madeBy] at hf
  refine lv_iload_n hx hb dX7_madeBy_0 rfl (lv_at hl 2 rfl) ?_
  refine lv_istore_n (lv' := [(3, .int x2), (0, .ref (bb E 32)), (1, .int x1), (2, .int x2)]) hx hb dX7_madeBy_1 rfl hl (by decide) rfl (fun ls hl => ?_)
  refine lv_aload_n hx hb dX7_madeBy_2 rfl (lv_at hl 1 rfl) ?_
  refine lv_iload_n hx hb dX7_madeBy_3 rfl (lv_at hl 2 rfl) ?_
  obtain ⟨r3, S1, h2, hf⟩ := cal_g hf
  refine go_i hH (run_V X hH (rest := []) (c_X7_oftenOf N S x1 h2) gm_X7_131 (by decide) (e_32 E _) rfl rfl hl.1 (rmL_ok (by decide) (by decide)) (Nat.le_of_ble_eq_true rfl) rfl dX7_madeBy_4) (fun H locs hH => ?_)
  clear h2
  refine lv_istore (lv' := [(4, .int r3), (3, .int x2), (0, .ref (bb E 32)), (1, .int x1), (2, .int x2)]) hx hb dX7_madeBy_7 hl (by decide) rfl (fun ls hl => ?_)
  refine lv_iconst (v := (nI 0)) hx hb dX7_madeBy_9 (by decide) ?_
  refine lv_topi (fun y4 ex => ?_)
  replace hf := bnd_at ex hf
  clear ex
  refine lv_istore (lv' := [(5, .int y4), (4, .int r3), (3, .int x2), (0, .ref (bb E 32)), (1, .int x1), (2, .int x2)]) hx hb dX7_madeBy_10 hl (by decide) rfl (fun ls hl => ?_)
  exact w_X7_madeBy_12 X N N S1 x1 x2 r3 y4 hf _ _ hH _ (lv_sub hl [3, 4, 2, 1, 0] rfl)
theorem c_X7_madeBy {l : Launch} {E : Ev} (N : Nat) (S : St) (x1 : Int32) (x2 : Int32) {r : Int32} {S1 : St} (hf : f_X7_madeBy N S x1 x2 = some (r, S1)) : Ct l yX7_madeBy (.code yX7_madeBy cX7_madeBy 7 (some .int)) 2 E [.ref (bb E 32), .int x1, .int x2] S (QI E r S1) := by
  refine Ct.of (by decide) (Nat.le_of_ble_eq_true rfl) (fun p e s m below meth c ls X hH hl => ?_)
  exact w_X7_madeBy_0 X N S x1 x2 hf _ _ hH _ hl
set_option maxRecDepth 100000 in
set_option maxHeartbeats 4000000 in
theorem w_X7_takes_14 {p : Program} {l : Launch} {e : Env} {s : State} {m : MethodId} {args : Array Value} {below : List Frame} {meth : Method} {c : Code} {E : Ev} {r : Int32} {S1 : St} (X : GX p s m meth c args cX7_takes 2 (some .boolean) RX7 E) (N : Nat) : ∀ (n : Nat) (S : St) (x1 : Int32), f_X7_takes_14 N n S x1 = some (r, S1) → ∀ (H : Heap) (locs : List Loc), HH E S s H locs → ∀ ls : Array Slot, lv_has ls 2 [(0, .ref (bb E 32)), (1, .int x1)] → W p l e (rmL 1) s m args below meth c H locs 0 0 (MQ below (QI E r S1 s.heap.size) args s 0 0 (AA E s.heap.size)) (F0 m 14 ls []) := by
  have hx := X.1
  have hb := X.2.1
  intro n
  induction n with
  | zero =>
    intro S x1 hf
    cases hf
  | succ n ih =>
    intro S x1 hf H locs hH ls hl
    rw [f_X7_takes_14] at hf
    refine lv_iload_n hx hb dX7_takes_14 rfl (lv_at hl 1 rfl) ?_
    refine lv_aload_n hx hb dX7_takes_15 rfl (lv_at hl 0 rfl) ?_
    refine fg_X7_140 X hH dX7_takes_16 ?_
    refine lv_icmp_ge (tgt := 42) hx hb dX7_takes_19 (by decide) (fun c0 => ?_) (fun c0 => ?_)
    · replace hf := ite_t c0 hf
      refine lv_aload_n hx hb dX7_takes_42 rfl (lv_at hl 0 rfl) ?_
      refine lv_dup hx hb dX7_takes_43 rfl ?_
      refine fg_X7_140 X hH dX7_takes_44 ?_
      refine lv_iconst (v := (nI 1)) hx hb dX7_takes_47 (by decide) ?_
      refine lv_isub hx hb dX7_takes_48 ?_
      refine fp_X7_140 X hH dX7_takes_49 (fun H locs hH => ?_)
      obtain ⟨S1, ex, hf⟩ := bnd_go hf
      replace hH := HH_eq ex hH
      clear ex
      refine lv_aload_n hx hb dX7_takes_52 rfl (lv_at hl 0 rfl) ?_
      refine lv_dup hx hb dX7_takes_53 rfl ?_
      refine fg_X7_146 X hH dX7_takes_54 ?_
      refine lv_iconst (v := (nI 1)) hx hb dX7_takes_57 (by decide) ?_
      refine lv_isub hx hb dX7_takes_58 ?_
      refine fp_X7_146 X hH dX7_takes_59 (fun H locs hH => ?_)
      obtain ⟨S2, ex, hf⟩ := bnd_go hf
      replace hH := HH_eq ex hH
      clear ex
      refine lv_iconst (v := (nI 1)) hx hb dX7_takes_62 (by decide) ?_
      exact r_zret X hH (by decide) hf dX7_takes_63
    · replace hf := ite_f c0 hf
      refine lv_aload_n hx hb dX7_takes_22 rfl (lv_at hl 0 rfl) ?_
      refine fg_X7_46 X hH dX7_takes_23 ?_
      refine lv_iload_n hx hb dX7_takes_26 rfl (lv_at hl 1 rfl) ?_
      refine lv_iconst (v := (nI 1)) hx hb dX7_takes_27 (by decide) ?_
      refine lv_isub hx hb dX7_takes_28 ?_
      refine lv_aload_n hx hb dX7_takes_29 rfl (lv_at hl 0 rfl) ?_
      refine fg_X7_46 X hH dX7_takes_30 ?_
      refine lv_iload_n hx hb dX7_takes_33 rfl (lv_at hl 1 rfl) ?_
      obtain ⟨g, hf⟩ := ite_g hf
      refine r_iald X hH (a_45 E) g dX7_takes_34 ?_
      obtain ⟨g, hf⟩ := ite_g hf
      refine r_iast X hH (a_45 E) g dX7_takes_35 (fun H locs hH => ?_)
      obtain ⟨S3, ex, hf⟩ := bnd_go hf
      replace hH := HH_eq ex hH
      clear ex
      obtain ⟨y4, ex, hf⟩ := bnd_go hf
      refine lv_iinc (v := y4) (lv' := [(1, .int y4), (0, .ref (bb E 32))]) hx hb dX7_takes_36 hl (k := 1) rfl (by rw [ex]; rfl) (by decide) rfl (fun ls hl => ?_)
      clear ex
      refine lv_goto (tgt := 14) hx hb dX7_takes_39 (by decide) ?_
      exact ih S3 y4 hf _ _ hH _ (lv_sub hl [1, 0] rfl)
set_option maxRecDepth 100000 in
set_option maxHeartbeats 4000000 in
theorem w_X7_takes_0 {p : Program} {l : Launch} {e : Env} {s : State} {m : MethodId} {args : Array Value} {below : List Frame} {meth : Method} {c : Code} {E : Ev} {r : Int32} {S1 : St} (X : GX p s m meth c args cX7_takes 2 (some .boolean) RX7 E) (N : Nat) : ∀ (S : St), f_X7_takes N S = some (r, S1) → ∀ (H : Heap) (locs : List Loc), HH E S s H locs → ∀ ls : Array Slot, lv_has ls 2 [(0, .ref (bb E 32))] → W p l e (rmL 1) s m args below meth c H locs 0 0 (MQ below (QI E r S1 s.heap.size) args s 0 0 (AA E s.heap.size)) (F0 m 0 ls []) := by
  have hx := X.1
  have hb := X.2.1
  intro S hf H locs hH ls hl
  rw [f_X7_takes] at hf
  refine lv_aload_n hx hb dX7_takes_0 rfl (lv_at hl 0 rfl) ?_
  refine fg_X7_146 X hH dX7_takes_1 ?_
  refine lv_if_ne (tgt := 9) hx hb dX7_takes_4 (by decide) (fun c0 => ?_) (fun c0 => ?_)
  · replace hf := ite_f c0 hf
    refine lv_aload_n hx hb dX7_takes_9 rfl (lv_at hl 0 rfl) ?_
    refine fg_X7_146 X hH dX7_takes_10 ?_
    refine lv_topi (fun y1 ex => ?_)
    replace hf := bnd_at ex hf
    clear ex
    refine lv_istore_n (lv' := [(1, .int y1), (0, .ref (bb E 32))]) hx hb dX7_takes_13 rfl hl (by decide) rfl (fun ls hl => ?_)
    exact w_X7_takes_14 X N N S y1 hf _ _ hH _ (lv_sub hl [1, 0] rfl)
  · replace hf := ite_t c0 hf
    refine lv_iconst (v := (nI 0)) hx hb dX7_takes_7 (by decide) ?_
    exact r_zret X hH (by decide) hf dX7_takes_8
theorem c_X7_takes {l : Launch} {E : Ev} (N : Nat) (S : St) {r : Int32} {S1 : St} (hf : f_X7_takes N S = some (r, S1)) : Ct l yX7_takes (.code yX7_takes cX7_takes 2 (some .boolean)) 1 E [.ref (bb E 32)] S (QI E r S1) := by
  refine Ct.of (by decide) (Nat.le_of_ble_eq_true rfl) (fun p e s m below meth c ls X hH hl => ?_)
  exact w_X7_takes_0 X N S hf _ _ hH _ hl
set_option maxRecDepth 100000 in
set_option maxHeartbeats 4000000 in
theorem w_X7_types_15 {p : Program} {l : Launch} {e : Env} {s : State} {m : MethodId} {args : Array Value} {below : List Frame} {meth : Method} {c : Code} {E : Ev} {r : Int32} {S1 : St} (X : GX p s m meth c args cX7_types 3 (some .boolean) RX7 E) (N : Nat) : ∀ (n : Nat) (S : St) (x1 : Int32) (x2 : Int32), f_X7_types_15 N n S x1 x2 = some (r, S1) → ∀ (H : Heap) (locs : List Loc), HH E S s H locs → ∀ ls : Array Slot, lv_has ls 3 [(0, .ref (bb E 32)), (1, .int x1), (2, .int x2)] → W p l e (rmL 1) s m args below meth c H locs 0 0 (MQ below (QI E r S1 s.heap.size) args s 0 0 (AA E s.heap.size)) (F0 m 15 ls []) := by
  have hx := X.1
  have hb := X.2.1
  intro n
  induction n with
  | zero =>
    intro S x1 x2 hf
    cases hf
  | succ n ih =>
    intro S x1 x2 hf H locs hH ls hl
    rw [f_X7_types_15] at hf
    refine lv_iload_n hx hb dX7_types_15 rfl (lv_at hl 2 rfl) ?_
    refine lv_aload_n hx hb dX7_types_16 rfl (lv_at hl 0 rfl) ?_
    refine fg_X7_146 X hH dX7_types_17 ?_
    refine lv_icmp_le (tgt := 43) hx hb dX7_types_20 (by decide) (fun c0 => ?_) (fun c0 => ?_)
    · replace hf := ite_t c0 hf
      refine lv_aload_n hx hb dX7_types_43 rfl (lv_at hl 0 rfl) ?_
      refine fg_X7_46 X hH dX7_types_44 ?_
      refine lv_aload_n hx hb dX7_types_47 rfl (lv_at hl 0 rfl) ?_
      refine fg_X7_146 X hH dX7_types_48 ?_
      refine lv_iload_n hx hb dX7_types_51 rfl (lv_at hl 1 rfl) ?_
      obtain ⟨g, hf⟩ := ite_g hf
      refine r_iast X hH (a_45 E) g dX7_types_52 (fun H locs hH => ?_)
      obtain ⟨S1, ex, hf⟩ := bnd_go hf
      replace hH := HH_eq ex hH
      clear ex
      refine lv_aload_n hx hb dX7_types_53 rfl (lv_at hl 0 rfl) ?_
      refine lv_dup hx hb dX7_types_54 rfl ?_
      refine fg_X7_140 X hH dX7_types_55 ?_
      refine lv_iconst (v := (nI 1)) hx hb dX7_types_58 (by decide) ?_
      refine lv_iadd hx hb dX7_types_59 ?_
      refine fp_X7_140 X hH dX7_types_60 (fun H locs hH => ?_)
      obtain ⟨S2, ex, hf⟩ := bnd_go hf
      replace hH := HH_eq ex hH
      clear ex
      refine lv_aload_n hx hb dX7_types_63 rfl (lv_at hl 0 rfl) ?_
      refine lv_dup hx hb dX7_types_64 rfl ?_
      refine fg_X7_146 X hH dX7_types_65 ?_
      refine lv_iconst (v := (nI 1)) hx hb dX7_types_68 (by decide) ?_
      refine lv_iadd hx hb dX7_types_69 ?_
      refine fp_X7_146 X hH dX7_types_70 (fun H locs hH => ?_)
      obtain ⟨S3, ex, hf⟩ := bnd_go hf
      replace hH := HH_eq ex hH
      clear ex
      refine lv_iconst (v := (nI 1)) hx hb dX7_types_73 (by decide) ?_
      exact r_zret X hH (by decide) hf dX7_types_74
    · replace hf := ite_f c0 hf
      refine lv_aload_n hx hb dX7_types_23 rfl (lv_at hl 0 rfl) ?_
      refine fg_X7_46 X hH dX7_types_24 ?_
      refine lv_iload_n hx hb dX7_types_27 rfl (lv_at hl 2 rfl) ?_
      refine lv_aload_n hx hb dX7_types_28 rfl (lv_at hl 0 rfl) ?_
      refine fg_X7_46 X hH dX7_types_29 ?_
      refine lv_iload_n hx hb dX7_types_32 rfl (lv_at hl 2 rfl) ?_
      refine lv_iconst (v := (nI 1)) hx hb dX7_types_33 (by decide) ?_
      refine lv_isub hx hb dX7_types_34 ?_
      obtain ⟨g, hf⟩ := ite_g hf
      refine r_iald X hH (a_45 E) g dX7_types_35 ?_
      obtain ⟨g, hf⟩ := ite_g hf
      refine r_iast X hH (a_45 E) g dX7_types_36 (fun H locs hH => ?_)
      obtain ⟨S4, ex, hf⟩ := bnd_go hf
      replace hH := HH_eq ex hH
      clear ex
      obtain ⟨y5, ex, hf⟩ := bnd_go hf
      refine lv_iinc (v := y5) (lv' := [(2, .int y5), (0, .ref (bb E 32)), (1, .int x1)]) hx hb dX7_types_37 hl (k := 2) rfl (by rw [ex]; rfl) (by decide) rfl (fun ls hl => ?_)
      clear ex
      refine lv_goto (tgt := 15) hx hb dX7_types_40 (by decide) ?_
      exact ih S4 x1 y5 hf _ _ hH _ (lv_sub hl [1, 2, 0] rfl)
set_option maxRecDepth 100000 in
set_option maxHeartbeats 4000000 in
theorem w_X7_types_0 {p : Program} {l : Launch} {e : Env} {s : State} {m : MethodId} {args : Array Value} {below : List Frame} {meth : Method} {c : Code} {E : Ev} {r : Int32} {S1 : St} (X : GX p s m meth c args cX7_types 3 (some .boolean) RX7 E) (N : Nat) : ∀ (S : St) (x1 : Int32), f_X7_types N S x1 = some (r, S1) → ∀ (H : Heap) (locs : List Loc), HH E S s H locs → ∀ ls : Array Slot, lv_has ls 3 [(0, .ref (bb E 32)), (1, .int x1)] → W p l e (rmL 1) s m args below meth c H locs 0 0 (MQ below (QI E r S1 s.heap.size) args s 0 0 (AA E s.heap.size)) (F0 m 0 ls []) := by
  have hx := X.1
  have hb := X.2.1
  intro S x1 hf H locs hH ls hl
  rw [f_X7_types] at hf
  refine lv_aload_n hx hb dX7_types_0 rfl (lv_at hl 0 rfl) ?_
  refine fg_X7_140 X hH dX7_types_1 ?_
  refine lv_iconst (v := (nI 5)) hx hb dX7_types_4 (by decide) ?_
  refine lv_icmp_ne (tgt := 10) hx hb dX7_types_5 (by decide) (fun c0 => ?_) (fun c0 => ?_)
  · replace hf := ite_f c0 hf
    refine lv_aload_n hx hb dX7_types_10 rfl (lv_at hl 0 rfl) ?_
    refine fg_X7_140 X hH dX7_types_11 ?_
    refine lv_topi (fun y1 ex => ?_)
    replace hf := bnd_at ex hf
    clear ex
    refine lv_istore_n (lv' := [(2, .int y1), (0, .ref (bb E 32)), (1, .int x1)]) hx hb dX7_types_14 rfl hl (by decide) rfl (fun ls hl => ?_)
    exact w_X7_types_15 X N N S x1 y1 hf _ _ hH _ (lv_sub hl [1, 2, 0] rfl)
  · replace hf := ite_t c0 hf
    refine lv_iconst (v := (nI 0)) hx hb dX7_types_8 (by decide) ?_
    exact r_zret X hH (by decide) hf dX7_types_9
theorem c_X7_types {l : Launch} {E : Ev} (N : Nat) (S : St) (x1 : Int32) {r : Int32} {S1 : St} (hf : f_X7_types N S x1 = some (r, S1)) : Ct l yX7_types (.code yX7_types cX7_types 3 (some .boolean)) 1 E [.ref (bb E 32), .int x1] S (QI E r S1) := by
  refine Ct.of (by decide) (Nat.le_of_ble_eq_true rfl) (fun p e s m below meth c ls X hH hl => ?_)
  exact w_X7_types_0 X N S x1 hf _ _ hH _ hl
set_option maxRecDepth 100000 in
set_option maxHeartbeats 4000000 in
theorem w_X7_does_76 {p : Program} {l : Launch} {e : Env} {s : State} {m : MethodId} {args : Array Value} {below : List Frame} {meth : Method} {c : Code} {E : Ev} {r : Int32} {S1 : St} (X : GX p s m meth c args cX7_does 3 (some .boolean) RX7 E) (N : Nat) : ∀ (S : St) (x1 : Int32) (xs0 : Int32), f_X7_does_76 N S x1 xs0 = some (r, S1) → ∀ (H : Heap) (locs : List Loc), HH E S s H locs → ∀ ls : Array Slot, lv_has ls 3 [(0, .ref (bb E 32)), (1, .int x1)] → W p l e (rmL 2) s m args below meth c H locs 0 0 (MQ below (QI E r S1 s.heap.size) args s 0 0 (AA E s.heap.size)) (F0 m 76 ls [.int xs0]) := by
  have hx := X.1
  have hb := X.2.1
  intro S x1 xs0 hf H locs hH ls hl
  rw [f_X7_does_76] at hf
  refine lv_istore_n (lv' := [(2, .int xs0), (0, .ref (bb E 32)), (1, .int x1)]) hx hb dX7_does_76 rfl hl (by decide) rfl (fun ls hl => ?_)
  refine lv_aload_n hx hb dX7_does_77 rfl (lv_at hl 1 rfl) ?_
  refine lv_iload_n hx hb dX7_does_78 rfl (lv_at hl 2 rfl) ?_
  refine lv_bipush (v := (nI 7)) hx hb dX7_does_79 (by decide) ?_
  refine lv_icmp_eq (tgt := 88) hx hb dX7_does_81 (by decide) (fun c0 => ?_) (fun c0 => ?_)
  · replace hf := ite_t c0 hf
    refine lv_iconst (v := (nI 0)) hx hb dX7_does_88 (by decide) ?_
    refine lv_goto (tgt := 98) hx hb dX7_does_89 (by decide) ?_
    refine fp_X7_146 X hH dX7_does_98 (fun H locs hH => ?_)
    obtain ⟨S1, ex, hf⟩ := bnd_go hf
    replace hH := HH_eq ex hH
    clear ex
    refine lv_iload_n hx hb dX7_does_101 rfl (lv_at hl 0 rfl) ?_
    obtain ⟨g, hf⟩ := ite_g hf
    exact r_zret X hH (nb_n g) hf dX7_does_102
  · replace hf := ite_f c0 hf
    refine lv_iload_n hx hb dX7_does_84 rfl (lv_at hl 0 rfl) ?_
    refine lv_if_ne (tgt := 92) hx hb dX7_does_85 (by decide) (fun c0 => ?_) (fun c0 => ?_)
    · replace hf := ite_f c0 hf
      refine lv_aload_n hx hb dX7_does_92 rfl (lv_at hl 1 rfl) ?_
      refine fg_X7_146 X hH dX7_does_93 ?_
      refine lv_iconst (v := (nI 1)) hx hb dX7_does_96 (by decide) ?_
      refine lv_isub hx hb dX7_does_97 ?_
      refine fp_X7_146 X hH dX7_does_98 (fun H locs hH => ?_)
      obtain ⟨S2, ex, hf⟩ := bnd_go hf
      replace hH := HH_eq ex hH
      clear ex
      refine lv_iload_n hx hb dX7_does_101 rfl (lv_at hl 0 rfl) ?_
      obtain ⟨g, hf⟩ := ite_g hf
      exact r_zret X hH (nb_n g) hf dX7_does_102
    · replace hf := ite_t c0 hf
      refine lv_iconst (v := (nI 0)) hx hb dX7_does_88 (by decide) ?_
      refine lv_goto (tgt := 98) hx hb dX7_does_89 (by decide) ?_
      refine fp_X7_146 X hH dX7_does_98 (fun H locs hH => ?_)
      obtain ⟨S3, ex, hf⟩ := bnd_go hf
      replace hH := HH_eq ex hH
      clear ex
      refine lv_iload_n hx hb dX7_does_101 rfl (lv_at hl 0 rfl) ?_
      obtain ⟨g, hf⟩ := ite_g hf
      exact r_zret X hH (nb_n g) hf dX7_does_102
set_option maxRecDepth 100000 in
set_option maxHeartbeats 4000000 in
theorem w_X7_does_43 {p : Program} {l : Launch} {e : Env} {s : State} {m : MethodId} {args : Array Value} {below : List Frame} {meth : Method} {c : Code} {E : Ev} {r : Int32} {S1 : St} (X : GX p s m meth c args cX7_does 3 (some .boolean) RX7 E) (N : Nat) : ∀ (S : St) (xs0 : Int32), f_X7_does_43 N S xs0 = some (r, S1) → ∀ (H : Heap) (locs : List Loc), HH E S s H locs → ∀ ls : Array Slot, lv_has ls 3 [(0, .ref (bb E 32))] → W p l e (rmL 2) s m args below meth c H locs 0 0 (MQ below (QI E r S1 s.heap.size) args s 0 0 (AA E s.heap.size)) (F0 m 43 ls [.int xs0]) := by
  have hx := X.1
  have hb := X.2.1
  intro S xs0 hf H locs hH ls hl
  rw [f_X7_does_43] at hf
  refine lv_istore_n (lv' := [(2, .int xs0), (0, .ref (bb E 32))]) hx hb dX7_does_43 rfl hl (by decide) rfl (fun ls hl => ?_)
  refine lv_aload_n hx hb dX7_does_44 rfl (lv_at hl 1 rfl) ?_
  refine lv_dup hx hb dX7_does_45 rfl ?_
  refine fg_X7_146 X hH dX7_does_46 ?_
  refine lv_iload_n hx hb dX7_does_49 rfl (lv_at hl 0 rfl) ?_
  refine lv_if_eq (tgt := 57) hx hb dX7_does_50 (by decide) (fun c0 => ?_) (fun c0 => ?_)
  · replace hf := ite_t c0 hf
    refine lv_iconst (v := (nI 0)) hx hb dX7_does_57 (by decide) ?_
    refine lv_iadd hx hb dX7_does_58 ?_
    refine fp_X7_146 X hH dX7_does_59 (fun H locs hH => ?_)
    obtain ⟨S1, ex, hf⟩ := bnd_go hf
    replace hH := HH_eq ex hH
    clear ex
    refine lv_iload_n hx hb dX7_does_62 rfl (lv_at hl 0 rfl) ?_
    obtain ⟨g, hf⟩ := ite_g hf
    exact r_zret X hH (nb_n g) hf dX7_does_63
  · replace hf := ite_f c0 hf
    refine lv_iconst (v := (nI 1)) hx hb dX7_does_53 (by decide) ?_
    refine lv_goto (tgt := 58) hx hb dX7_does_54 (by decide) ?_
    refine lv_iadd hx hb dX7_does_58 ?_
    refine fp_X7_146 X hH dX7_does_59 (fun H locs hH => ?_)
    obtain ⟨S2, ex, hf⟩ := bnd_go hf
    replace hH := HH_eq ex hH
    clear ex
    refine lv_iload_n hx hb dX7_does_62 rfl (lv_at hl 0 rfl) ?_
    obtain ⟨g, hf⟩ := ite_g hf
    exact r_zret X hH (nb_n g) hf dX7_does_63
set_option maxRecDepth 100000 in
set_option maxHeartbeats 4000000 in
theorem w_X7_does_0 {p : Program} {l : Launch} {e : Env} {s : State} {m : MethodId} {args : Array Value} {below : List Frame} {meth : Method} {c : Code} {E : Ev} {r : Int32} {S1 : St} (X : GX p s m meth c args cX7_does 3 (some .boolean) RX7 E) (N : Nat) : ∀ (S : St) (x1 : Int32), f_X7_does N S x1 = some (r, S1) → ∀ (H : Heap) (locs : List Loc), HH E S s H locs → ∀ ls : Array Slot, lv_has ls 3 [(0, .ref (bb E 32)), (1, .int x1)] → W p l e (rmL 2) s m args below meth c H locs 0 0 (MQ below (QI E r S1 s.heap.size) args s 0 0 (AA E s.heap.size)) (F0 m 0 ls []) := by
  have hx := X.1
  have hb := X.2.1
  intro S x1 hf H locs hH ls hl
  rw [f_X7_does] at hf
  refine lv_iload_n hx hb dX7_does_0 rfl (lv_at hl 1 rfl) ?_
  refine lv_iconst (v := (nI 4)) hx hb dX7_does_1 (by decide) ?_
  refine lv_icmp_ge (tgt := 11) hx hb dX7_does_2 (by decide) (fun c0 => ?_) (fun c0 => ?_)
  · replace hf := ite_t c0 hf
    refine lv_iload_n hx hb dX7_does_11 rfl (lv_at hl 1 rfl) ?_
    refine lv_bipush (v := (nI 6)) hx hb dX7_does_12 (by decide) ?_
    refine lv_icmp_ne (tgt := 22) hx hb dX7_does_14 (by decide) (fun c0 => ?_) (fun c0 => ?_)
    · replace hf := ite_f c0 hf
      refine lv_iload_n hx hb dX7_does_22 rfl (lv_at hl 1 rfl) ?_
      refine lv_iconst (v := (nI 5)) hx hb dX7_does_23 (by decide) ?_
      refine lv_icmp_ne (tgt := 64) hx hb dX7_does_24 (by decide) (fun c0 => ?_) (fun c0 => ?_)
      · replace hf := ite_f c0 hf
        refine lv_aload_n hx hb dX7_does_64 rfl (lv_at hl 0 rfl) ?_
        refine fg_X7_146 X hH dX7_does_65 ?_
        refine lv_if_le (tgt := 75) hx hb dX7_does_68 (by decide) (fun c0 => ?_) (fun c0 => ?_)
        · replace hf := ite_t c0 hf
          refine lv_iconst (v := (nI 0)) hx hb dX7_does_75 (by decide) ?_
          exact w_X7_does_76 X N S x1 (nI 0) hf _ _ hH _ (lv_sub hl [0, 1] rfl)
        · replace hf := ite_f c0 hf
          refine lv_iconst (v := (nI 1)) hx hb dX7_does_71 (by decide) ?_
          refine lv_goto (tgt := 76) hx hb dX7_does_72 (by decide) ?_
          exact w_X7_does_76 X N S x1 (nI 1) hf _ _ hH _ (lv_sub hl [0, 1] rfl)
      · replace hf := ite_t c0 hf
        refine lv_aload_n hx hb dX7_does_27 rfl (lv_at hl 0 rfl) ?_
        refine fg_X7_146 X hH dX7_does_28 ?_
        refine lv_aload_n hx hb dX7_does_31 rfl (lv_at hl 0 rfl) ?_
        refine fg_X7_140 X hH dX7_does_32 ?_
        refine lv_icmp_ge (tgt := 42) hx hb dX7_does_35 (by decide) (fun c0 => ?_) (fun c0 => ?_)
        · replace hf := ite_t c0 hf
          refine lv_iconst (v := (nI 0)) hx hb dX7_does_42 (by decide) ?_
          exact w_X7_does_43 X N S (nI 0) hf _ _ hH _ (lv_sub hl [0] rfl)
        · replace hf := ite_f c0 hf
          refine lv_iconst (v := (nI 1)) hx hb dX7_does_38 (by decide) ?_
          refine lv_goto (tgt := 43) hx hb dX7_does_39 (by decide) ?_
          exact w_X7_does_43 X N S (nI 1) hf _ _ hH _ (lv_sub hl [0] rfl)
    · replace hf := ite_t c0 hf
      refine lv_aload_n hx hb dX7_does_17 rfl (lv_at hl 0 rfl) ?_
      obtain ⟨r3, S1, h2, hf⟩ := cal_g hf
      refine go_i hH (run_V X hH (rest := []) (c_X7_takes N S h2) gm_X7_152 (by decide) (e_32 E _) rfl rfl hl.1 (rmL_ok (by decide) (by decide)) (Nat.le_of_ble_eq_true rfl) rfl dX7_does_18) (fun H locs hH => ?_)
      clear h2
      obtain ⟨g, hf⟩ := ite_g hf
      exact r_zret X hH (nb_n g) hf dX7_does_21
  · replace hf := ite_f c0 hf
    refine lv_aload_n hx hb dX7_does_5 rfl (lv_at hl 0 rfl) ?_
    refine lv_iload_n hx hb dX7_does_6 rfl (lv_at hl 1 rfl) ?_
    obtain ⟨r6, S4, h5, hf⟩ := cal_g hf
    refine go_i hH (run_V X hH (rest := []) (c_X7_types N S x1 h5) gm_X7_149 (by decide) (e_32 E _) rfl rfl hl.1 (rmL_ok (by decide) (by decide)) (Nat.le_of_ble_eq_true rfl) rfl dX7_does_7) (fun H locs hH => ?_)
    clear h5
    obtain ⟨g, hf⟩ := ite_g hf
    exact r_zret X hH (nb_n g) hf dX7_does_10
theorem c_X7_does {l : Launch} {E : Ev} (N : Nat) (S : St) (x1 : Int32) {r : Int32} {S1 : St} (hf : f_X7_does N S x1 = some (r, S1)) : Ct l yX7_does (.code yX7_does cX7_does 3 (some .boolean)) 2 E [.ref (bb E 32), .int x1] S (QI E r S1) := by
  refine Ct.of (by decide) (Nat.le_of_ble_eq_true rfl) (fun p e s m below meth c ls X hH hl => ?_)
  exact w_X7_does_0 X N S x1 hf _ _ hH _ hl
set_option maxRecDepth 100000 in
set_option maxHeartbeats 4000000 in
theorem w_X7_presses_0 {p : Program} {l : Launch} {e : Env} {s : State} {m : MethodId} {args : Array Value} {below : List Frame} {meth : Method} {c : Code} {E : Ev} {r : Int32} {S1 : St} (X : GX p s m meth c args cX7_presses 3 (some .boolean) RX7 E) (N : Nat) : ∀ (S : St) (x1 : Int32), f_X7_presses N S x1 = some (r, S1) → ∀ (H : Heap) (locs : List Loc), HH E S s H locs → ∀ ls : Array Slot, lv_has ls 3 [(0, .ref (bb E 32)), (1, .int x1)] → W p l e (rmL 3) s m args below meth c H locs 0 0 (MQ below (QI E r S1 s.heap.size) args s 0 0 (AA E s.heap.size)) (F0 m 0 ls []) := by
  have hx := X.1
  have hb := X.2.1
  intro S x1 hf H locs hH ls hl
  rw [f_X7_presses] at hf
  refine lv_aload_n hx hb dX7_presses_0 rfl (lv_at hl 0 rfl) ?_
  refine lv_iload_n hx hb dX7_presses_1 rfl (lv_at hl 1 rfl) ?_
  obtain ⟨r3, S1, h2, hf⟩ := cal_g hf
  refine go_i hH (run_V X hH (rest := []) (c_X7_does N S x1 h2) gm_X7_156 (by decide) (e_32 E _) rfl rfl hl.1 (rmL_ok (by decide) (by decide)) (Nat.le_of_ble_eq_true rfl) rfl dX7_presses_2) (fun H locs hH => ?_)
  clear h2
  refine lv_istore_n (lv' := [(2, .int r3), (0, .ref (bb E 32)), (1, .int x1)]) hx hb dX7_presses_5 rfl hl (by decide) rfl (fun ls hl => ?_)
  refine lv_aload_n hx hb dX7_presses_6 rfl (lv_at hl 1 rfl) ?_
  refine lv_dup hx hb dX7_presses_7 rfl ?_
  refine fg_X7_159 X hH dX7_presses_8 ?_
  refine lv_iload_n hx hb dX7_presses_11 rfl (lv_at hl 0 rfl) ?_
  refine lv_if_eq (tgt := 19) hx hb dX7_presses_12 (by decide) (fun c0 => ?_) (fun c0 => ?_)
  · replace hf := ite_t c0 hf
    refine lv_iconst (v := (nI 1)) hx hb dX7_presses_19 (by decide) ?_
    refine lv_iadd hx hb dX7_presses_20 ?_
    refine fp_X7_159 X hH dX7_presses_21 (fun H locs hH => ?_)
    obtain ⟨S4, ex, hf⟩ := bnd_go hf
    replace hH := HH_eq ex hH
    clear ex
    refine lv_iload_n hx hb dX7_presses_24 rfl (lv_at hl 0 rfl) ?_
    obtain ⟨g, hf⟩ := ite_g hf
    exact r_zret X hH (nb_n g) hf dX7_presses_25
  · replace hf := ite_f c0 hf
    refine lv_iconst (v := (nI 0)) hx hb dX7_presses_15 (by decide) ?_
    refine lv_goto (tgt := 20) hx hb dX7_presses_16 (by decide) ?_
    refine lv_iadd hx hb dX7_presses_20 ?_
    refine fp_X7_159 X hH dX7_presses_21 (fun H locs hH => ?_)
    obtain ⟨S5, ex, hf⟩ := bnd_go hf
    replace hH := HH_eq ex hH
    clear ex
    refine lv_iload_n hx hb dX7_presses_24 rfl (lv_at hl 0 rfl) ?_
    obtain ⟨g, hf⟩ := ite_g hf
    exact r_zret X hH (nb_n g) hf dX7_presses_25
theorem c_X7_presses {l : Launch} {E : Ev} (N : Nat) (S : St) (x1 : Int32) {r : Int32} {S1 : St} (hf : f_X7_presses N S x1 = some (r, S1)) : Ct l yX7_presses (.code yX7_presses cX7_presses 3 (some .boolean)) 3 E [.ref (bb E 32), .int x1] S (QI E r S1) := by
  refine Ct.of (by decide) (Nat.le_of_ble_eq_true rfl) (fun p e s m below meth c ls X hH hl => ?_)
  exact w_X7_presses_0 X N S x1 hf _ _ hH _ hl
set_option maxRecDepth 100000 in
set_option maxHeartbeats 4000000 in
theorem w_X7_workOn_77 {p : Program} {l : Launch} {e : Env} {s : State} {m : MethodId} {args : Array Value} {below : List Frame} {meth : Method} {c : Code} {E : Ev} {r : Unit} {S1 : St} (X : GX p s m meth c args cX7_workOn 4 none RX7 E) (N : Nat) : ∀ (n : Nat) (S : St) (x2 : Int32) (x3 : Int32), f_X7_workOn_77 N n S x2 x3 = some (r, S1) → ∀ (H : Heap) (locs : List Loc), HH E S s H locs → ∀ ls : Array Slot, lv_has ls 4 [(0, .ref (bb E 32)), (2, .int x2), (3, .int x3)] → W p l e (rmL 2) s m args below meth c H locs 0 0 (MQ below (QV E r S1 s.heap.size) args s 0 0 (AA E s.heap.size)) (F0 m 77 ls []) := by
  have hx := X.1
  have hb := X.2.1
  intro n
  induction n with
  | zero =>
    intro S x2 x3 hf
    cases hf
  | succ n ih =>
    intro S x2 x3 hf H locs hH ls hl
    rw [f_X7_workOn_77] at hf
    refine lv_iload_n hx hb dX7_workOn_77 rfl (lv_at hl 2 rfl) ?_
    refine lv_if_lt (tgt := 100) hx hb dX7_workOn_78 (by decide) (fun c0 => ?_) (fun c0 => ?_)
    · replace hf := ite_t c0 hf
      exact r_vret X hH hf dX7_workOn_100
    · replace hf := ite_f c0 hf
      refine lv_aload_n hx hb dX7_workOn_81 rfl (lv_at hl 0 rfl) ?_
      refine fg_X7_46 X hH dX7_workOn_82 ?_
      refine lv_iload_n hx hb dX7_workOn_85 rfl (lv_at hl 2 rfl) ?_
      refine lv_iload_n hx hb dX7_workOn_86 rfl (lv_at hl 1 rfl) ?_
      refine lv_iconst (v := (nI 4)) hx hb dX7_workOn_87 (by decide) ?_
      refine lv_irem hx hb dX7_workOn_88 (by decide) ?_
      obtain ⟨g, hf⟩ := ite_g hf
      refine r_iast X hH (a_45 E) g dX7_workOn_89 (fun H locs hH => ?_)
      obtain ⟨S1, ex, hf⟩ := bnd_go hf
      replace hH := HH_eq ex hH
      clear ex
      refine lv_iload_n hx hb dX7_workOn_90 rfl (lv_at hl 1 rfl) ?_
      refine lv_iconst (v := (nI 4)) hx hb dX7_workOn_91 (by decide) ?_
      refine lv_idiv hx hb dX7_workOn_92 (by decide) ?_
      refine lv_topi (fun y2 ex => ?_)
      replace hf := bnd_at ex hf
      clear ex
      refine lv_istore_n (lv' := [(2, .int y2), (0, .ref (bb E 32)), (3, .int x3)]) hx hb dX7_workOn_93 rfl hl (by decide) rfl (fun ls hl => ?_)
      obtain ⟨y3, ex, hf⟩ := bnd_go hf
      refine lv_iinc (v := y3) (lv' := [(3, .int y3), (2, .int y2), (0, .ref (bb E 32))]) hx hb dX7_workOn_94 hl (k := 2) rfl (by rw [ex]; rfl) (by decide) rfl (fun ls hl => ?_)
      clear ex
      refine lv_goto (tgt := 77) hx hb dX7_workOn_97 (by decide) ?_
      exact ih S1 y2 y3 hf _ _ hH _ (lv_sub hl [2, 1, 0] rfl)
set_option maxRecDepth 100000 in
set_option maxHeartbeats 4000000 in
theorem w_X7_workOn_39 {p : Program} {l : Launch} {e : Env} {s : State} {m : MethodId} {args : Array Value} {below : List Frame} {meth : Method} {c : Code} {E : Ev} {r : Unit} {S1 : St} (X : GX p s m meth c args cX7_workOn 4 none RX7 E) (N : Nat) : ∀ (S : St) (x1 : Int32), f_X7_workOn_39 N S x1 = some (r, S1) → ∀ (H : Heap) (locs : List Loc), HH E S s H locs → ∀ ls : Array Slot, lv_has ls 4 [(0, .ref (bb E 32)), (1, .int x1)] → W p l e (rmL 2) s m args below meth c H locs 0 0 (MQ below (QV E r S1 s.heap.size) args s 0 0 (AA E s.heap.size)) (F0 m 39 ls []) := by
  have hx := X.1
  have hb := X.2.1
  intro S x1 hf H locs hH ls hl
  rw [f_X7_workOn_39] at hf
  refine lv_iload_n hx hb dX7_workOn_39 rfl (lv_at hl 1 rfl) ?_
  refine lv_aload_n hx hb dX7_workOn_40 rfl (lv_at hl 0 rfl) ?_
  refine fg_X7_140 X hH dX7_workOn_41 ?_
  obtain ⟨r3, S1, h2, hf⟩ := cal_g hf
  refine go_i hH (run_S X hH (rest := [.int x1]) (c_X7_linesBelow N S (S 32 20) h2) gm_X7_143 rfl hl.1 (rmL_ok (by decide) (by decide)) (Nat.le_of_ble_eq_true rfl) rfl dX7_workOn_44) (fun H locs hH => ?_)
  clear h2
  refine lv_isub hx hb dX7_workOn_47 ?_
  refine lv_topi (fun y4 ex => ?_)
  replace hf := bnd_at ex hf
  clear ex
  refine lv_istore_n (lv' := [(2, .int y4), (0, .ref (bb E 32)), (1, .int x1)]) hx hb dX7_workOn_48 rfl hl (by decide) rfl (fun ls hl => ?_)
  refine lv_aload_n hx hb dX7_workOn_49 rfl (lv_at hl 1 rfl) ?_
  refine lv_iload_n hx hb dX7_workOn_50 rfl (lv_at hl 0 rfl) ?_
  refine lv_aload_n hx hb dX7_workOn_51 rfl (lv_at hl 1 rfl) ?_
  refine fg_X7_140 X hH dX7_workOn_52 ?_
  refine lv_iconst (v := (nI 1)) hx hb dX7_workOn_55 (by decide) ?_
  refine lv_iadd hx hb dX7_workOn_56 ?_
  obtain ⟨g, hf⟩ := ite_g hf
  refine lv_irem hx hb dX7_workOn_57 g ?_
  refine fp_X7_146 X hH dX7_workOn_58 (fun H locs hH => ?_)
  obtain ⟨S5, ex, hf⟩ := bnd_go hf
  replace hH := HH_eq ex hH
  clear ex
  refine lv_iload_n hx hb dX7_workOn_61 rfl (lv_at hl 0 rfl) ?_
  refine lv_aload_n hx hb dX7_workOn_62 rfl (lv_at hl 1 rfl) ?_
  refine fg_X7_140 X hH dX7_workOn_63 ?_
  refine lv_iconst (v := (nI 1)) hx hb dX7_workOn_66 (by decide) ?_
  refine lv_iadd hx hb dX7_workOn_67 ?_
  obtain ⟨g, hf⟩ := ite_g hf
  refine lv_idiv hx hb dX7_workOn_68 g ?_
  refine lv_topi (fun y6 ex => ?_)
  replace hf := bnd_at ex hf
  clear ex
  refine lv_istore_n (lv' := [(2, .int y6), (0, .ref (bb E 32)), (1, .int x1)]) hx hb dX7_workOn_69 rfl hl (by decide) rfl (fun ls hl => ?_)
  refine lv_aload_n hx hb dX7_workOn_70 rfl (lv_at hl 1 rfl) ?_
  refine fg_X7_140 X hH dX7_workOn_71 ?_
  refine lv_iconst (v := (nI 1)) hx hb dX7_workOn_74 (by decide) ?_
  refine lv_isub hx hb dX7_workOn_75 ?_
  refine lv_topi (fun y7 ex => ?_)
  replace hf := bnd_at ex hf
  clear ex
  refine lv_istore_n (lv' := [(3, .int y7), (2, .int y6), (0, .ref (bb E 32)), (1, .int x1)]) hx hb dX7_workOn_76 rfl hl (by decide) rfl (fun ls hl => ?_)
  exact w_X7_workOn_77 X N N S5 y6 y7 hf _ _ hH _ (lv_sub hl [2, 1, 0] rfl)
set_option maxRecDepth 100000 in
set_option maxHeartbeats 4000000 in
theorem w_X7_workOn_5 {p : Program} {l : Launch} {e : Env} {s : State} {m : MethodId} {args : Array Value} {below : List Frame} {meth : Method} {c : Code} {E : Ev} {r : Unit} {S1 : St} (X : GX p s m meth c args cX7_workOn 4 none RX7 E) (N : Nat) : ∀ (n : Nat) (S : St) (x1 : Int32), f_X7_workOn_5 N n S x1 = some (r, S1) → ∀ (H : Heap) (locs : List Loc), HH E S s H locs → ∀ ls : Array Slot, lv_has ls 4 [(0, .ref (bb E 32)), (1, .int x1)] → W p l e (rmL 2) s m args below meth c H locs 0 0 (MQ below (QV E r S1 s.heap.size) args s 0 0 (AA E s.heap.size)) (F0 m 5 ls []) := by
  have hx := X.1
  have hb := X.2.1
  intro n
  induction n with
  | zero =>
    intro S x1 hf
    cases hf
  | succ n ih =>
    intro S x1 hf H locs hH ls hl
    rw [f_X7_workOn_5] at hf
    refine lv_aload_n hx hb dX7_workOn_5 rfl (lv_at hl 0 rfl) ?_
    refine fg_X7_140 X hH dX7_workOn_6 ?_
    refine lv_iconst (v := (nI 5)) hx hb dX7_workOn_9 (by decide) ?_
    refine lv_icmp_ge (tgt := 39) hx hb dX7_workOn_10 (by decide) (fun c0 => ?_) (fun c0 => ?_)
    · replace hf := ite_t c0 hf
      exact w_X7_workOn_39 X N S x1 hf _ _ hH _ (lv_sub hl [0, 1] rfl)
    · replace hf := ite_f c0 hf
      refine lv_iload_n hx hb dX7_workOn_13 rfl (lv_at hl 1 rfl) ?_
      refine lv_aload_n hx hb dX7_workOn_14 rfl (lv_at hl 0 rfl) ?_
      refine fg_X7_140 X hH dX7_workOn_15 ?_
      refine lv_iconst (v := (nI 1)) hx hb dX7_workOn_18 (by decide) ?_
      refine lv_iadd hx hb dX7_workOn_19 ?_
      obtain ⟨r3, S1, h2, hf⟩ := cal_g hf
      refine go_i hH (run_S X hH (rest := [.int x1]) (c_X7_linesBelow N S ((S 32 20) + (nI 1)) h2) gm_X7_143 rfl hl.1 (rmL_ok (by decide) (by decide)) (Nat.le_of_ble_eq_true rfl) rfl dX7_workOn_20) (fun H locs hH => ?_)
      clear h2
      refine lv_icmp_lt (tgt := 39) hx hb dX7_workOn_23 (by decide) (fun c0 => ?_) (fun c0 => ?_)
      · replace hf := ite_t c0 hf
        exact w_X7_workOn_39 X N S1 x1 hf _ _ hH _ (lv_sub hl [0, 1] rfl)
      · replace hf := ite_f c0 hf
        refine lv_aload_n hx hb dX7_workOn_26 rfl (lv_at hl 0 rfl) ?_
        refine lv_dup hx hb dX7_workOn_27 rfl ?_
        refine fg_X7_140 X hH dX7_workOn_28 ?_
        refine lv_iconst (v := (nI 1)) hx hb dX7_workOn_31 (by decide) ?_
        refine lv_iadd hx hb dX7_workOn_32 ?_
        refine fp_X7_140 X hH dX7_workOn_33 (fun H locs hH => ?_)
        obtain ⟨S4, ex, hf⟩ := bnd_go hf
        replace hH := HH_eq ex hH
        clear ex
        refine lv_goto (tgt := 5) hx hb dX7_workOn_36 (by decide) ?_
        exact ih S4 x1 hf _ _ hH _ (lv_sub hl [0, 1] rfl)
set_option maxRecDepth 100000 in
set_option maxHeartbeats 4000000 in
theorem w_X7_workOn_0 {p : Program} {l : Launch} {e : Env} {s : State} {m : MethodId} {args : Array Value} {below : List Frame} {meth : Method} {c : Code} {E : Ev} {r : Unit} {S1 : St} (X : GX p s m meth c args cX7_workOn 4 none RX7 E) (N : Nat) : ∀ (S : St) (x1 : Int32), f_X7_workOn N S x1 = some (r, S1) → ∀ (H : Heap) (locs : List Loc), HH E S s H locs → ∀ ls : Array Slot, lv_has ls 4 [(0, .ref (bb E 32)), (1, .int x1)] → W p l e (rmL 2) s m args below meth c H locs 0 0 (MQ below (QV E r S1 s.heap.size) args s 0 0 (AA E s.heap.size)) (F0 m 0 ls []) := by
  have hx := X.1
  have hb := X.2.1
  intro S x1 hf H locs hH ls hl
  rw [f_X7_workOn] at hf
  refine lv_aload_n hx hb dX7_workOn_0 rfl (lv_at hl 0 rfl) ?_
  refine lv_iconst (v := (nI 0)) hx hb dX7_workOn_1 (by decide) ?_
  refine fp_X7_140 X hH dX7_workOn_2 (fun H locs hH => ?_)
  obtain ⟨S1, ex, hf⟩ := bnd_go hf
  replace hH := HH_eq ex hH
  clear ex
  exact w_X7_workOn_5 X N N S1 x1 hf _ _ hH _ (lv_sub hl [0, 1] rfl)
theorem c_X7_workOn {l : Launch} {E : Ev} (N : Nat) (S : St) (x1 : Int32) {r : Unit} {S1 : St} (hf : f_X7_workOn N S x1 = some (r, S1)) : Ct l yX7_workOn (.code yX7_workOn cX7_workOn 4 none) 2 E [.ref (bb E 32), .int x1] S (QV E r S1) := by
  refine Ct.of (by decide) (Nat.le_of_ble_eq_true rfl) (fun p e s m below meth c ls X hH hl => ?_)
  exact w_X7_workOn_0 X N S x1 hf _ _ hH _ hl
set_option maxRecDepth 100000 in
set_option maxHeartbeats 4000000 in
theorem w_X7_findMakes_87 {p : Program} {l : Launch} {e : Env} {s : State} {m : MethodId} {args : Array Value} {below : List Frame} {meth : Method} {c : Code} {E : Ev} {r : Unit} {S1 : St} (X : GX p s m meth c args cX7_findMakes 3 none RX7 E) (N : Nat) (k70 : St → Int32 → Option (Unit × St)) (hk70 : ∀ (S : St) (x1 : Int32), k70 S x1 = some (r, S1) → ∀ (H : Heap) (locs : List Loc), HH E S s H locs → ∀ ls : Array Slot, lv_has ls 3 [(0, .ref (bb E 32)), (1, .int x1)] → W p l e (rmL 4) s m args below meth c H locs 0 0 (MQ below (QV E r S1 s.heap.size) args s 0 0 (AA E s.heap.size)) (F0 m 70 ls [])) : ∀ (n : Nat) (S : St) (x1 : Int32) (x2 : Int32), f_X7_findMakes_87 N k70 n S x1 x2 = some (r, S1) → ∀ (H : Heap) (locs : List Loc), HH E S s H locs → ∀ ls : Array Slot, lv_has ls 3 [(0, .ref (bb E 32)), (1, .int x1), (2, .int x2)] → W p l e (rmL 4) s m args below meth c H locs 0 0 (MQ below (QV E r S1 s.heap.size) args s 0 0 (AA E s.heap.size)) (F0 m 87 ls []) := by
  have hx := X.1
  have hb := X.2.1
  intro n
  induction n with
  | zero =>
    intro S x1 x2 hf
    cases hf
  | succ n ih =>
    intro S x1 x2 hf H locs hH ls hl
    rw [f_X7_findMakes_87] at hf
    refine lv_iload_n hx hb dX7_findMakes_87 rfl (lv_at hl 2 rfl) ?_
    refine lv_sipush (v := (nI 7737)) hx hb dX7_findMakes_88 (by decide) ?_
    refine lv_icmp_ge (tgt := 121) hx hb dX7_findMakes_91 (by decide) (fun c0 => ?_) (fun c0 => ?_)
    · replace hf := ite_t c0 hf
      obtain ⟨y1, ex, hf⟩ := bnd_go hf
      refine lv_iinc (v := y1) (lv' := [(1, .int y1), (0, .ref (bb E 32)), (2, .int x2)]) hx hb dX7_findMakes_121 hl (k := 1) rfl (by rw [ex]; rfl) (by decide) rfl (fun ls hl => ?_)
      clear ex
      refine lv_goto (tgt := 70) hx hb dX7_findMakes_124 (by decide) ?_
      exact hk70 S y1 hf _ _ hH _ (lv_sub hl [1, 0] rfl)
    · replace hf := ite_f c0 hf
      refine lv_aload_n hx hb dX7_findMakes_94 rfl (lv_at hl 0 rfl) ?_
      refine fg_X7_59 X hH dX7_findMakes_95 ?_
      refine lv_sipush (v := (nI 7737)) hx hb dX7_findMakes_98 (by decide) ?_
      refine lv_bipush (v := (nI 8)) hx hb dX7_findMakes_101 (by decide) ?_
      refine lv_iload_n hx hb dX7_findMakes_103 rfl (lv_at hl 1 rfl) ?_
      refine lv_iadd hx hb dX7_findMakes_104 ?_
      refine lv_imul hx hb dX7_findMakes_105 ?_
      refine lv_iload_n hx hb dX7_findMakes_106 rfl (lv_at hl 2 rfl) ?_
      refine lv_iadd hx hb dX7_findMakes_107 ?_
      refine lv_aload_n hx hb dX7_findMakes_108 rfl (lv_at hl 0 rfl) ?_
      refine lv_iload_n hx hb dX7_findMakes_109 rfl (lv_at hl 1 rfl) ?_
      refine lv_iload_n hx hb dX7_findMakes_110 rfl (lv_at hl 2 rfl) ?_
      obtain ⟨r4, S2, h3, hf⟩ := cal_g hf
      refine go_i hH (run_V X hH (rest := [.int (((nI 7737) * ((nI 8) + x1)) + x2), .ref (bb E 49)]) (c_X7_madeBy N S x1 x2 h3) gm_X7_192 (by decide) (e_32 E _) rfl rfl hl.1 (rmL_ok (by decide) (by decide)) (Nat.le_of_ble_eq_true rfl) rfl dX7_findMakes_111) (fun H locs hH => ?_)
      clear h3
      obtain ⟨g, hf⟩ := ite_g hf
      refine r_iast X hH (a_49 E) g dX7_findMakes_114 (fun H locs hH => ?_)
      obtain ⟨S5, ex, hf⟩ := bnd_go hf
      replace hH := HH_eq ex hH
      clear ex
      obtain ⟨y6, ex, hf⟩ := bnd_go hf
      refine lv_iinc (v := y6) (lv' := [(2, .int y6), (0, .ref (bb E 32)), (1, .int x1)]) hx hb dX7_findMakes_115 hl (k := 2) rfl (by rw [ex]; rfl) (by decide) rfl (fun ls hl => ?_)
      clear ex
      refine lv_goto (tgt := 87) hx hb dX7_findMakes_118 (by decide) ?_
      exact ih S5 x1 y6 hf _ _ hH _ (lv_sub hl [1, 2, 0] rfl)
set_option maxRecDepth 100000 in
set_option maxHeartbeats 4000000 in
theorem w_X7_findMakes_70 {p : Program} {l : Launch} {e : Env} {s : State} {m : MethodId} {args : Array Value} {below : List Frame} {meth : Method} {c : Code} {E : Ev} {r : Unit} {S1 : St} (X : GX p s m meth c args cX7_findMakes 3 none RX7 E) (N : Nat) : ∀ (n : Nat) (S : St) (x1 : Int32), f_X7_findMakes_70 N n S x1 = some (r, S1) → ∀ (H : Heap) (locs : List Loc), HH E S s H locs → ∀ ls : Array Slot, lv_has ls 3 [(0, .ref (bb E 32)), (1, .int x1)] → W p l e (rmL 4) s m args below meth c H locs 0 0 (MQ below (QV E r S1 s.heap.size) args s 0 0 (AA E s.heap.size)) (F0 m 70 ls []) := by
  have hx := X.1
  have hb := X.2.1
  intro n
  induction n with
  | zero =>
    intro S x1 hf
    cases hf
  | succ n ih =>
    intro S x1 hf H locs hH ls hl
    rw [f_X7_findMakes_70] at hf
    refine lv_iload_n hx hb dX7_findMakes_70 rfl (lv_at hl 1 rfl) ?_
    refine lv_aload_n hx hb dX7_findMakes_71 rfl (lv_at hl 0 rfl) ?_
    refine fg_X7_84 X hH dX7_findMakes_72 ?_
    refine lv_icmp_ge (tgt := 127) hx hb dX7_findMakes_75 (by decide) (fun c0 => ?_) (fun c0 => ?_)
    · replace hf := ite_t c0 hf
      refine lv_aload_n hx hb dX7_findMakes_127 rfl (lv_at hl 0 rfl) ?_
      refine lv_iconst (v := (nI 1)) hx hb dX7_findMakes_128 (by decide) ?_
      refine fp_X7_120 X hH (by decide) dX7_findMakes_129 (fun H locs hH => ?_)
      obtain ⟨S1, ex, hf⟩ := bnd_go hf
      replace hH := HH_eq ex hH
      clear ex
      exact r_vret X hH hf dX7_findMakes_132
    · replace hf := ite_f c0 hf
      refine lv_aload_n hx hb dX7_findMakes_78 rfl (lv_at hl 0 rfl) ?_
      refine fg_X7_120 X hH dX7_findMakes_79 ?_
      refine lv_if_ne (tgt := 127) hx hb dX7_findMakes_82 (by decide) (fun c0 => ?_) (fun c0 => ?_)
      · replace hf := ite_f c0 hf
        refine lv_aload_n hx hb dX7_findMakes_127 rfl (lv_at hl 0 rfl) ?_
        refine lv_iconst (v := (nI 1)) hx hb dX7_findMakes_128 (by decide) ?_
        refine fp_X7_120 X hH (by decide) dX7_findMakes_129 (fun H locs hH => ?_)
        obtain ⟨S2, ex, hf⟩ := bnd_go hf
        replace hH := HH_eq ex hH
        clear ex
        exact r_vret X hH hf dX7_findMakes_132
      · replace hf := ite_t c0 hf
        refine lv_iconst (v := (nI 0)) hx hb dX7_findMakes_85 (by decide) ?_
        refine lv_topi (fun y3 ex => ?_)
        replace hf := bnd_at ex hf
        clear ex
        refine lv_istore_n (lv' := [(2, .int y3), (0, .ref (bb E 32)), (1, .int x1)]) hx hb dX7_findMakes_86 rfl hl (by decide) rfl (fun ls hl => ?_)
        exact w_X7_findMakes_87 X N (f_X7_findMakes_70 N n) ih N S x1 y3 hf _ _ hH _ (lv_sub hl [1, 2, 0] rfl)
set_option maxRecDepth 100000 in
set_option maxHeartbeats 4000000 in
theorem w_X7_findMakes_17 {p : Program} {l : Launch} {e : Env} {s : State} {m : MethodId} {args : Array Value} {below : List Frame} {meth : Method} {c : Code} {E : Ev} {r : Unit} {S1 : St} (X : GX p s m meth c args cX7_findMakes 3 none RX7 E) (N : Nat) (k2 : St → Int32 → Option (Unit × St)) (hk2 : ∀ (S : St) (x1 : Int32), k2 S x1 = some (r, S1) → ∀ (H : Heap) (locs : List Loc), HH E S s H locs → ∀ ls : Array Slot, lv_has ls 3 [(0, .ref (bb E 32)), (1, .int x1)] → W p l e (rmL 4) s m args below meth c H locs 0 0 (MQ below (QV E r S1 s.heap.size) args s 0 0 (AA E s.heap.size)) (F0 m 2 ls [])) : ∀ (n : Nat) (S : St) (x1 : Int32) (x2 : Int32), f_X7_findMakes_17 N k2 n S x1 x2 = some (r, S1) → ∀ (H : Heap) (locs : List Loc), HH E S s H locs → ∀ ls : Array Slot, lv_has ls 3 [(0, .ref (bb E 32)), (1, .int x1), (2, .int x2)] → W p l e (rmL 4) s m args below meth c H locs 0 0 (MQ below (QV E r S1 s.heap.size) args s 0 0 (AA E s.heap.size)) (F0 m 17 ls []) := by
  have hx := X.1
  have hb := X.2.1
  intro n
  induction n with
  | zero =>
    intro S x1 x2 hf
    cases hf
  | succ n ih =>
    intro S x1 x2 hf H locs hH ls hl
    rw [f_X7_findMakes_17] at hf
    refine lv_iload_n hx hb dX7_findMakes_17 rfl (lv_at hl 2 rfl) ?_
    refine lv_sipush (v := (nI 7737)) hx hb dX7_findMakes_18 (by decide) ?_
    refine lv_icmp_ge (tgt := 57) hx hb dX7_findMakes_21 (by decide) (fun c0 => ?_) (fun c0 => ?_)
    · replace hf := ite_t c0 hf
      obtain ⟨y1, ex, hf⟩ := bnd_go hf
      refine lv_iinc (v := y1) (lv' := [(1, .int y1), (0, .ref (bb E 32)), (2, .int x2)]) hx hb dX7_findMakes_57 hl (k := 1) rfl (by rw [ex]; rfl) (by decide) rfl (fun ls hl => ?_)
      clear ex
      refine lv_goto (tgt := 2) hx hb dX7_findMakes_60 (by decide) ?_
      exact hk2 S y1 hf _ _ hH _ (lv_sub hl [1, 0] rfl)
    · replace hf := ite_f c0 hf
      refine lv_aload_n hx hb dX7_findMakes_24 rfl (lv_at hl 0 rfl) ?_
      refine lv_iload_n hx hb dX7_findMakes_25 rfl (lv_at hl 2 rfl) ?_
      obtain ⟨_, S2, h3, hf⟩ := cal_g hf
      refine go_v hH (run_V X hH (rest := []) (c_X7_workOn N S x2 h3) gm_X7_165 (by decide) (e_32 E _) rfl rfl hl.1 (rmL_ok (by decide) (by decide)) (Nat.le_of_ble_eq_true rfl) rfl dX7_findMakes_26) (fun H locs hH => ?_)
      clear h3
      refine lv_aload_n hx hb dX7_findMakes_29 rfl (lv_at hl 0 rfl) ?_
      refine lv_iload_n hx hb dX7_findMakes_30 rfl (lv_at hl 1 rfl) ?_
      obtain ⟨r7, S5, h6, hf⟩ := cal_g hf
      refine go_i hH (run_V X hH (rest := []) (c_X7_presses N S2 x1 h6) gm_X7_162 (by decide) (e_32 E _) rfl rfl hl.1 (rmL_ok (by decide) (by decide)) (Nat.le_of_ble_eq_true rfl) rfl dX7_findMakes_31) (fun H locs hH => ?_)
      clear h6
      refine lv_pop hx hb dX7_findMakes_34 rfl ?_
      refine lv_aload_n hx hb dX7_findMakes_35 rfl (lv_at hl 0 rfl) ?_
      refine fg_X7_59 X hH dX7_findMakes_36 ?_
      refine lv_sipush (v := (nI 7737)) hx hb dX7_findMakes_39 (by decide) ?_
      refine lv_iload_n hx hb dX7_findMakes_42 rfl (lv_at hl 1 rfl) ?_
      refine lv_imul hx hb dX7_findMakes_43 ?_
      refine lv_iload_n hx hb dX7_findMakes_44 rfl (lv_at hl 2 rfl) ?_
      refine lv_iadd hx hb dX7_findMakes_45 ?_
      refine lv_aload_n hx hb dX7_findMakes_46 rfl (lv_at hl 0 rfl) ?_
      obtain ⟨r10, S8, h9, hf⟩ := cal_g hf
      refine go_i hH (run_V X hH (rest := [.int (((nI 7737) * x1) + x2), .ref (bb E 49)]) (c_X7_lineNumber N S5 h9) gm_X7_169 (by decide) (e_32 E _) rfl rfl hl.1 (rmL_ok (by decide) (by decide)) (Nat.le_of_ble_eq_true rfl) rfl dX7_findMakes_47) (fun H locs hH => ?_)
      clear h9
      obtain ⟨g, hf⟩ := ite_g hf
      refine r_iast X hH (a_49 E) g dX7_findMakes_50 (fun H locs hH => ?_)
      obtain ⟨S11, ex, hf⟩ := bnd_go hf
      replace hH := HH_eq ex hH
      clear ex
      obtain ⟨y12, ex, hf⟩ := bnd_go hf
      refine lv_iinc (v := y12) (lv' := [(2, .int y12), (0, .ref (bb E 32)), (1, .int x1)]) hx hb dX7_findMakes_51 hl (k := 2) rfl (by rw [ex]; rfl) (by decide) rfl (fun ls hl => ?_)
      clear ex
      refine lv_goto (tgt := 17) hx hb dX7_findMakes_54 (by decide) ?_
      exact ih S11 x1 y12 hf _ _ hH _ (lv_sub hl [1, 2, 0] rfl)
set_option maxRecDepth 100000 in
set_option maxHeartbeats 4000000 in
theorem w_X7_findMakes_2 {p : Program} {l : Launch} {e : Env} {s : State} {m : MethodId} {args : Array Value} {below : List Frame} {meth : Method} {c : Code} {E : Ev} {r : Unit} {S1 : St} (X : GX p s m meth c args cX7_findMakes 3 none RX7 E) (N : Nat) : ∀ (n : Nat) (S : St) (x1 : Int32), f_X7_findMakes_2 N n S x1 = some (r, S1) → ∀ (H : Heap) (locs : List Loc), HH E S s H locs → ∀ ls : Array Slot, lv_has ls 3 [(0, .ref (bb E 32)), (1, .int x1)] → W p l e (rmL 4) s m args below meth c H locs 0 0 (MQ below (QV E r S1 s.heap.size) args s 0 0 (AA E s.heap.size)) (F0 m 2 ls []) := by
  have hx := X.1
  have hb := X.2.1
  intro n
  induction n with
  | zero =>
    intro S x1 hf
    cases hf
  | succ n ih =>
    intro S x1 hf H locs hH ls hl
    rw [f_X7_findMakes_2] at hf
    refine lv_iload_n hx hb dX7_findMakes_2 rfl (lv_at hl 1 rfl) ?_
    refine lv_bipush (v := (nI 8)) hx hb dX7_findMakes_3 (by decide) ?_
    refine lv_icmp_ge (tgt := 63) hx hb dX7_findMakes_5 (by decide) (fun c0 => ?_) (fun c0 => ?_)
    · replace hf := ite_t c0 hf
      refine lv_aload_n hx hb dX7_findMakes_63 rfl (lv_at hl 0 rfl) ?_
      refine lv_iconst (v := (nI 1)) hx hb dX7_findMakes_64 (by decide) ?_
      refine fp_X7_189 X hH (by decide) dX7_findMakes_65 (fun H locs hH => ?_)
      obtain ⟨S1, ex, hf⟩ := bnd_go hf
      replace hH := HH_eq ex hH
      clear ex
      refine lv_iconst (v := (nI 0)) hx hb dX7_findMakes_68 (by decide) ?_
      refine lv_topi (fun y2 ex => ?_)
      replace hf := bnd_at ex hf
      clear ex
      refine lv_istore_n (lv' := [(1, .int y2), (0, .ref (bb E 32))]) hx hb dX7_findMakes_69 rfl hl (by decide) rfl (fun ls hl => ?_)
      exact w_X7_findMakes_70 X N N S1 y2 hf _ _ hH _ (lv_sub hl [1, 0] rfl)
    · replace hf := ite_f c0 hf
      refine lv_aload_n hx hb dX7_findMakes_8 rfl (lv_at hl 0 rfl) ?_
      refine fg_X7_189 X hH dX7_findMakes_9 ?_
      refine lv_if_ne (tgt := 63) hx hb dX7_findMakes_12 (by decide) (fun c0 => ?_) (fun c0 => ?_)
      · replace hf := ite_f c0 hf
        refine lv_aload_n hx hb dX7_findMakes_63 rfl (lv_at hl 0 rfl) ?_
        refine lv_iconst (v := (nI 1)) hx hb dX7_findMakes_64 (by decide) ?_
        refine fp_X7_189 X hH (by decide) dX7_findMakes_65 (fun H locs hH => ?_)
        obtain ⟨S3, ex, hf⟩ := bnd_go hf
        replace hH := HH_eq ex hH
        clear ex
        refine lv_iconst (v := (nI 0)) hx hb dX7_findMakes_68 (by decide) ?_
        refine lv_topi (fun y4 ex => ?_)
        replace hf := bnd_at ex hf
        clear ex
        refine lv_istore_n (lv' := [(1, .int y4), (0, .ref (bb E 32))]) hx hb dX7_findMakes_69 rfl hl (by decide) rfl (fun ls hl => ?_)
        exact w_X7_findMakes_70 X N N S3 y4 hf _ _ hH _ (lv_sub hl [1, 0] rfl)
      · replace hf := ite_t c0 hf
        refine lv_iconst (v := (nI 0)) hx hb dX7_findMakes_15 (by decide) ?_
        refine lv_topi (fun y5 ex => ?_)
        replace hf := bnd_at ex hf
        clear ex
        refine lv_istore_n (lv' := [(2, .int y5), (0, .ref (bb E 32)), (1, .int x1)]) hx hb dX7_findMakes_16 rfl hl (by decide) rfl (fun ls hl => ?_)
        exact w_X7_findMakes_17 X N (f_X7_findMakes_2 N n) ih N S x1 y5 hf _ _ hH _ (lv_sub hl [1, 2, 0] rfl)
set_option maxRecDepth 100000 in
set_option maxHeartbeats 4000000 in
theorem w_X7_findMakes_0 {p : Program} {l : Launch} {e : Env} {s : State} {m : MethodId} {args : Array Value} {below : List Frame} {meth : Method} {c : Code} {E : Ev} {r : Unit} {S1 : St} (X : GX p s m meth c args cX7_findMakes 3 none RX7 E) (N : Nat) : ∀ (S : St), f_X7_findMakes N S = some (r, S1) → ∀ (H : Heap) (locs : List Loc), HH E S s H locs → ∀ ls : Array Slot, lv_has ls 3 [(0, .ref (bb E 32))] → W p l e (rmL 4) s m args below meth c H locs 0 0 (MQ below (QV E r S1 s.heap.size) args s 0 0 (AA E s.heap.size)) (F0 m 0 ls []) := by
  have hx := X.1
  have hb := X.2.1
  intro S hf H locs hH ls hl
  rw [f_X7_findMakes] at hf
  refine lv_iconst (v := (nI 0)) hx hb dX7_findMakes_0 (by decide) ?_
  refine lv_topi (fun y1 ex => ?_)
  replace hf := bnd_at ex hf
  clear ex
  refine lv_istore_n (lv' := [(1, .int y1), (0, .ref (bb E 32))]) hx hb dX7_findMakes_1 rfl hl (by decide) rfl (fun ls hl => ?_)
  exact w_X7_findMakes_2 X N N S y1 hf _ _ hH _ (lv_sub hl [1, 0] rfl)
theorem c_X7_findMakes {l : Launch} {E : Ev} (N : Nat) (S : St) {r : Unit} {S1 : St} (hf : f_X7_findMakes N S = some (r, S1)) : Ct l yX7_findMakes (.code yX7_findMakes cX7_findMakes 3 none) 4 E [.ref (bb E 32)] S (QV E r S1) := by
  refine Ct.of (by decide) (Nat.le_of_ble_eq_true rfl) (fun p e s m below meth c ls X hH hl => ?_)
  exact w_X7_findMakes_0 X N S hf _ _ hH _ hl
set_option maxRecDepth 100000 in
set_option maxHeartbeats 4000000 in
theorem w_X7_isMacro_0 {p : Program} {l : Launch} {e : Env} {s : State} {m : MethodId} {args : Array Value} {below : List Frame} {meth : Method} {c : Code} {E : Ev} {r : Int32} {S1 : St} (X : GX p s m meth c args cX7_isMacro 2 (some .boolean) RX7 E) (N : Nat) : ∀ (S : St) (x1 : Int32), f_X7_isMacro N S x1 = some (r, S1) → ∀ (H : Heap) (locs : List Loc), HH E S s H locs → ∀ ls : Array Slot, lv_has ls 2 [(0, .ref (bb E 32)), (1, .int x1)] → W p l e (rmL 1) s m args below meth c H locs 0 0 (MQ below (QI E r S1 s.heap.size) args s 0 0 (AA E s.heap.size)) (F0 m 0 ls []) := by
  have hx := X.1
  have hb := X.2.1
  intro S x1 hf H locs hH ls hl
  rw [f_X7_isMacro] at hf
  refine lv_iload_n hx hb dX7_isMacro_0 rfl (lv_at hl 1 rfl) ?_
  refine lv_if_lt (tgt := 16) hx hb dX7_isMacro_1 (by decide) (fun c0 => ?_) (fun c0 => ?_)
  · replace hf := ite_t c0 hf
    refine lv_iconst (v := (nI 0)) hx hb dX7_isMacro_16 (by decide) ?_
    exact r_zret X hH (by decide) hf dX7_isMacro_17
  · replace hf := ite_f c0 hf
    refine lv_iload_n hx hb dX7_isMacro_4 rfl (lv_at hl 1 rfl) ?_
    refine lv_aload_n hx hb dX7_isMacro_5 rfl (lv_at hl 0 rfl) ?_
    refine fg_X7_84 X hH dX7_isMacro_6 ?_
    refine lv_icmp_ge (tgt := 16) hx hb dX7_isMacro_9 (by decide) (fun c0 => ?_) (fun c0 => ?_)
    · replace hf := ite_t c0 hf
      refine lv_iconst (v := (nI 0)) hx hb dX7_isMacro_16 (by decide) ?_
      exact r_zret X hH (by decide) hf dX7_isMacro_17
    · replace hf := ite_f c0 hf
      refine lv_iconst (v := (nI 1)) hx hb dX7_isMacro_12 (by decide) ?_
      refine lv_goto (tgt := 17) hx hb dX7_isMacro_13 (by decide) ?_
      exact r_zret X hH (by decide) hf dX7_isMacro_17
theorem c_X7_isMacro {l : Launch} {E : Ev} (N : Nat) (S : St) (x1 : Int32) {r : Int32} {S1 : St} (hf : f_X7_isMacro N S x1 = some (r, S1)) : Ct l yX7_isMacro (.code yX7_isMacro cX7_isMacro 2 (some .boolean)) 1 E [.ref (bb E 32), .int x1] S (QI E r S1) := by
  refine Ct.of (by decide) (Nat.le_of_ble_eq_true rfl) (fun p e s m below meth c ls X hH hl => ?_)
  exact w_X7_isMacro_0 X N S x1 hf _ _ hH _ hl
set_option maxRecDepth 100000 in
set_option maxHeartbeats 4000000 in
theorem w_X7_within_0 {p : Program} {l : Launch} {e : Env} {s : State} {m : MethodId} {args : Array Value} {below : List Frame} {meth : Method} {c : Code} {E : Ev} {r : Int32} {S1 : St} (X : GX p s m meth c args cX7_within 3 (some .boolean) RX7 E) (N : Nat) : ∀ (S : St) (x0 : Int32) (x1 : Int32) (x2 : Int32), f_X7_within N S x0 x1 x2 = some (r, S1) → ∀ (H : Heap) (locs : List Loc), HH E S s H locs → ∀ ls : Array Slot, lv_has ls 3 [(0, .int x0), (1, .int x1), (2, .int x2)] → W p l e (rmL 1) s m args below meth c H locs 0 0 (MQ below (QI E r S1 s.heap.size) args s 0 0 (AA E s.heap.size)) (F0 m 0 ls []) := by
  have hx := X.1
  have hb := X.2.1
  intro S x0 x1 x2 hf H locs hH ls hl
  rw [f_X7_within] at hf
  refine lv_iload_n hx hb dX7_within_0 rfl (lv_at hl 0 rfl) ?_
  refine lv_iload_n hx hb dX7_within_1 rfl (lv_at hl 1 rfl) ?_
  refine lv_icmp_lt (tgt := 14) hx hb dX7_within_2 (by decide) (fun c0 => ?_) (fun c0 => ?_)
  · replace hf := ite_t c0 hf
    refine lv_iconst (v := (nI 0)) hx hb dX7_within_14 (by decide) ?_
    exact r_zret X hH (by decide) hf dX7_within_15
  · replace hf := ite_f c0 hf
    refine lv_iload_n hx hb dX7_within_5 rfl (lv_at hl 0 rfl) ?_
    refine lv_iload_n hx hb dX7_within_6 rfl (lv_at hl 2 rfl) ?_
    refine lv_icmp_gt (tgt := 14) hx hb dX7_within_7 (by decide) (fun c0 => ?_) (fun c0 => ?_)
    · replace hf := ite_t c0 hf
      refine lv_iconst (v := (nI 0)) hx hb dX7_within_14 (by decide) ?_
      exact r_zret X hH (by decide) hf dX7_within_15
    · replace hf := ite_f c0 hf
      refine lv_iconst (v := (nI 1)) hx hb dX7_within_10 (by decide) ?_
      refine lv_goto (tgt := 15) hx hb dX7_within_11 (by decide) ?_
      exact r_zret X hH (by decide) hf dX7_within_15
theorem c_X7_within {l : Launch} {E : Ev} (N : Nat) (S : St) (x0 : Int32) (x1 : Int32) (x2 : Int32) {r : Int32} {S1 : St} (hf : f_X7_within N S x0 x1 x2 = some (r, S1)) : Ct l yX7_within (.code yX7_within cX7_within 3 (some .boolean)) 1 E [.int x0, .int x1, .int x2] S (QI E r S1) := by
  refine Ct.of (by decide) (Nat.le_of_ble_eq_true rfl) (fun p e s m below meth c ls X hH hl => ?_)
  exact w_X7_within_0 X N S x0 x1 x2 hf _ _ hH _ hl
set_option maxRecDepth 100000 in
set_option maxHeartbeats 4000000 in
theorem w_X7_again_57 {p : Program} {l : Launch} {e : Env} {s : State} {m : MethodId} {args : Array Value} {below : List Frame} {meth : Method} {c : Code} {E : Ev} {r : Int32} {S1 : St} (X : GX p s m meth c args cX7_again 5 (some .int) RX7 E) (N : Nat) : ∀ (n : Nat) (S : St) (x1 : Int32) (x2 : Int32) (x3 : Int32) (x4 : Int32), f_X7_again_57 N n S x1 x2 x3 x4 = some (r, S1) → ∀ (H : Heap) (locs : List Loc), HH E S s H locs → ∀ ls : Array Slot, lv_has ls 5 [(0, .ref (bb E 32)), (1, .int x1), (2, .int x2), (3, .int x3), (4, .int x4)] → W p l e (rmL 5) s m args below meth c H locs 0 0 (MQ below (QI E r S1 s.heap.size) args s 0 0 (AA E s.heap.size)) (F0 m 57 ls []) := by
  have hx := X.1
  have hb := X.2.1
  intro n
  induction n with
  | zero =>
    intro S x1 x2 x3 x4 hf
    cases hf
  | succ n ih =>
    intro S x1 x2 x3 x4 hf H locs hH ls hl
    rw [f_X7_again_57] at hf
    refine lv_aload_n hx hb dX7_again_57 rfl (lv_at hl 0 rfl) ?_
    refine fg_X7_65 X hH dX7_again_58 ?_
    refine lv_iload_n hx hb dX7_again_61 rfl (lv_at hl 3 rfl) ?_
    obtain ⟨g, hf⟩ := ite_g hf
    refine r_iald X hH (a_51 E) g dX7_again_62 ?_
    refine lv_bipush (v := (-9 : Int32)) hx hb dX7_again_63 (by decide) ?_
    refine lv_icmp_ne (tgt := 98) hx hb dX7_again_65 (by decide) (fun c0 => ?_) (fun c0 => ?_)
    · replace hf := ite_f c0 hf
      refine lv_iload_n hx hb dX7_again_98 rfl (lv_at hl 2 rfl) ?_
      refine lv_if_ne (tgt := 111) hx hb dX7_again_99 (by decide) (fun c0 => ?_) (fun c0 => ?_)
      · replace hf := ite_f c0 hf
        refine lv_iload hx hb dX7_again_111 (lv_at hl 4 rfl) ?_
        refine lv_aload_n hx hb dX7_again_113 rfl (lv_at hl 0 rfl) ?_
        refine fg_X7_65 X hH dX7_again_114 ?_
        refine lv_iload_n hx hb dX7_again_117 rfl (lv_at hl 3 rfl) ?_
        obtain ⟨g, hf⟩ := ite_g hf
        refine r_iald X hH (a_51 E) g dX7_again_118 ?_
        refine lv_isub hx hb dX7_again_119 ?_
        exact r_iret X hH hf dX7_again_120
      · replace hf := ite_t c0 hf
        refine lv_aload_n hx hb dX7_again_102 rfl (lv_at hl 0 rfl) ?_
        refine fg_X7_65 X hH dX7_again_103 ?_
        refine lv_iload_n hx hb dX7_again_106 rfl (lv_at hl 3 rfl) ?_
        obtain ⟨g, hf⟩ := ite_g hf
        refine r_iald X hH (a_51 E) g dX7_again_107 ?_
        refine lv_goto (tgt := 120) hx hb dX7_again_108 (by decide) ?_
        exact r_iret X hH hf dX7_again_120
    · replace hf := ite_t c0 hf
      refine lv_aload_n hx hb dX7_again_68 rfl (lv_at hl 0 rfl) ?_
      refine fg_X7_65 X hH dX7_again_69 ?_
      refine lv_iload_n hx hb dX7_again_72 rfl (lv_at hl 3 rfl) ?_
      refine lv_iload hx hb dX7_again_73 (lv_at hl 4 rfl) ?_
      obtain ⟨g, hf⟩ := ite_g hf
      refine r_iast X hH (a_51 E) g dX7_again_75 (fun H locs hH => ?_)
      obtain ⟨S1, ex, hf⟩ := bnd_go hf
      replace hH := HH_eq ex hH
      clear ex
      obtain ⟨y2, ex, hf⟩ := bnd_go hf
      refine lv_iinc (v := y2) (lv' := [(4, .int y2), (0, .ref (bb E 32)), (1, .int x1), (2, .int x2), (3, .int x3)]) hx hb dX7_again_76 hl (k := 4) rfl (by rw [ex]; rfl) (by decide) rfl (fun ls hl => ?_)
      clear ex
      refine lv_aload_n hx hb dX7_again_79 rfl (lv_at hl 1 rfl) ?_
      refine fg_X7_59 X hH dX7_again_80 ?_
      refine lv_sipush (v := (nI 7737)) hx hb dX7_again_83 (by decide) ?_
      refine lv_bipush (v := (nI 8)) hx hb dX7_again_86 (by decide) ?_
      refine lv_iload_n hx hb dX7_again_88 rfl (lv_at hl 2 rfl) ?_
      refine lv_iadd hx hb dX7_again_89 ?_
      refine lv_imul hx hb dX7_again_90 ?_
      refine lv_iload_n hx hb dX7_again_91 rfl (lv_at hl 4 rfl) ?_
      refine lv_iadd hx hb dX7_again_92 ?_
      obtain ⟨g, hf⟩ := ite_g hf
      refine r_iald X hH (a_49 E) g dX7_again_93 ?_
      refine lv_topi (fun y3 ex => ?_)
      replace hf := bnd_at ex hf
      clear ex
      refine lv_istore_n (lv' := [(3, .int y3), (4, .int y2), (0, .ref (bb E 32)), (1, .int x1), (2, .int x2)]) hx hb dX7_again_94 rfl hl (by decide) rfl (fun ls hl => ?_)
      refine lv_goto (tgt := 57) hx hb dX7_again_95 (by decide) ?_
      exact ih S1 x1 x2 y3 y2 hf _ _ hH _ (lv_sub hl [2, 3, 4, 0, 1] rfl)
set_option maxRecDepth 100000 in
set_option maxHeartbeats 4000000 in
theorem w_X7_again_28 {p : Program} {l : Launch} {e : Env} {s : State} {m : MethodId} {args : Array Value} {below : List Frame} {meth : Method} {c : Code} {E : Ev} {r : Int32} {S1 : St} (X : GX p s m meth c args cX7_again 5 (some .int) RX7 E) (N : Nat) : ∀ (n : Nat) (S : St) (x1 : Int32) (x2 : Int32) (x3 : Int32), f_X7_again_28 N n S x1 x2 x3 = some (r, S1) → ∀ (H : Heap) (locs : List Loc), HH E S s H locs → ∀ ls : Array Slot, lv_has ls 5 [(0, .ref (bb E 32)), (1, .int x1), (2, .int x2), (3, .int x3)] → W p l e (rmL 5) s m args below meth c H locs 0 0 (MQ below (QI E r S1 s.heap.size) args s 0 0 (AA E s.heap.size)) (F0 m 28 ls []) := by
  have hx := X.1
  have hb := X.2.1
  intro n
  induction n with
  | zero =>
    intro S x1 x2 x3 hf
    cases hf
  | succ n ih =>
    intro S x1 x2 x3 hf H locs hH ls hl
    rw [f_X7_again_28] at hf
    refine lv_iload_n hx hb dX7_again_28 rfl (lv_at hl 3 rfl) ?_
    refine lv_sipush (v := (nI 7737)) hx hb dX7_again_29 (by decide) ?_
    refine lv_icmp_ge (tgt := 49) hx hb dX7_again_32 (by decide) (fun c0 => ?_) (fun c0 => ?_)
    · replace hf := ite_t c0 hf
      refine lv_aload_n hx hb dX7_again_49 rfl (lv_at hl 0 rfl) ?_
      refine fg_X7_111 X hH dX7_again_50 ?_
      refine lv_topi (fun y1 ex => ?_)
      replace hf := bnd_at ex hf
      clear ex
      refine lv_istore_n (lv' := [(3, .int y1), (0, .ref (bb E 32)), (1, .int x1), (2, .int x2)]) hx hb dX7_again_53 rfl hl (by decide) rfl (fun ls hl => ?_)
      refine lv_iconst (v := (nI 0)) hx hb dX7_again_54 (by decide) ?_
      refine lv_topi (fun y2 ex => ?_)
      replace hf := bnd_at ex hf
      clear ex
      refine lv_istore (lv' := [(4, .int y2), (3, .int y1), (0, .ref (bb E 32)), (1, .int x1), (2, .int x2)]) hx hb dX7_again_55 hl (by decide) rfl (fun ls hl => ?_)
      exact w_X7_again_57 X N N S x1 x2 y1 y2 hf _ _ hH _ (lv_sub hl [2, 3, 4, 1, 0] rfl)
    · replace hf := ite_f c0 hf
      refine lv_aload_n hx hb dX7_again_35 rfl (lv_at hl 0 rfl) ?_
      refine fg_X7_65 X hH dX7_again_36 ?_
      refine lv_iload_n hx hb dX7_again_39 rfl (lv_at hl 3 rfl) ?_
      refine lv_bipush (v := (-9 : Int32)) hx hb dX7_again_40 (by decide) ?_
      obtain ⟨g, hf⟩ := ite_g hf
      refine r_iast X hH (a_51 E) g dX7_again_42 (fun H locs hH => ?_)
      obtain ⟨S3, ex, hf⟩ := bnd_go hf
      replace hH := HH_eq ex hH
      clear ex
      obtain ⟨y4, ex, hf⟩ := bnd_go hf
      refine lv_iinc (v := y4) (lv' := [(3, .int y4), (0, .ref (bb E 32)), (1, .int x1), (2, .int x2)]) hx hb dX7_again_43 hl (k := 3) rfl (by rw [ex]; rfl) (by decide) rfl (fun ls hl => ?_)
      clear ex
      refine lv_goto (tgt := 28) hx hb dX7_again_46 (by decide) ?_
      exact ih S3 x1 x2 y4 hf _ _ hH _ (lv_sub hl [1, 2, 3, 0] rfl)
set_option maxRecDepth 100000 in
set_option maxHeartbeats 4000000 in
theorem w_X7_again_0 {p : Program} {l : Launch} {e : Env} {s : State} {m : MethodId} {args : Array Value} {below : List Frame} {meth : Method} {c : Code} {E : Ev} {r : Int32} {S1 : St} (X : GX p s m meth c args cX7_again 5 (some .int) RX7 E) (N : Nat) : ∀ (S : St) (x1 : Int32) (x2 : Int32), f_X7_again N S x1 x2 = some (r, S1) → ∀ (H : Heap) (locs : List Loc), HH E S s H locs → ∀ ls : Array Slot, lv_has ls 5 [(0, .ref (bb E 32)), (1, .int x1), (2, .int x2)] → W p l e (rmL 5) s m args below meth c H locs 0 0 (MQ below (QI E r S1 s.heap.size) args s 0 0 (AA E s.heap.size)) (F0 m 0 ls []) := by
  have hx := X.1
  have hb := X.2.1
  intro S x1 x2 hf H locs hH ls hl
  rw [f_X7_again] at hf
  refine lv_aload_n hx hb dX7_again_0 rfl (lv_at hl 0 rfl) ?_
  refine lv_iload_n hx hb dX7_again_1 rfl (lv_at hl 1 rfl) ?_
  obtain ⟨r3, S1, h2, hf⟩ := cal_g hf
  refine go_i hH (run_V X hH (rest := []) (c_X7_isMacro N S x1 h2) gm_X7_134 (by decide) (e_32 E _) rfl rfl hl.1 (rmL_ok (by decide) (by decide)) (Nat.le_of_ble_eq_true rfl) rfl dX7_again_2) (fun H locs hH => ?_)
  clear h2
  refine lv_if_ne (tgt := 10) hx hb dX7_again_5 (by decide) (fun c0 => ?_) (fun c0 => ?_)
  · replace hf := ite_f c0 hf
    refine lv_iload_n hx hb dX7_again_10 rfl (lv_at hl 2 rfl) ?_
    refine lv_iconst (v := (nI 0)) hx hb dX7_again_11 (by decide) ?_
    refine lv_iconst (v := (nI 1)) hx hb dX7_again_12 (by decide) ?_
    obtain ⟨r6, S4, h5, hf⟩ := cal_g hf
    refine go_i hH (run_S X hH (rest := []) (c_X7_within N S1 x2 (nI 0) (nI 1) h5) gm_X7_80 rfl hl.1 (rmL_ok (by decide) (by decide)) (Nat.le_of_ble_eq_true rfl) rfl dX7_again_13) (fun H locs hH => ?_)
    clear h5
    refine lv_if_ne (tgt := 22) hx hb dX7_again_16 (by decide) (fun c0 => ?_) (fun c0 => ?_)
    · replace hf := ite_f c0 hf
      refine lv_aload_n hx hb dX7_again_22 rfl (lv_at hl 0 rfl) ?_
      obtain ⟨_, S7, h8, hf⟩ := cal_g hf
      refine go_v hH (run_V X hH (rest := []) (c_X7_findMakes N S4 h8) gm_X7_198 (by decide) (e_32 E _) rfl rfl hl.1 (rmL_ok (by decide) (by decide)) (Nat.le_of_ble_eq_true rfl) rfl dX7_again_23) (fun H locs hH => ?_)
      clear h8
      refine lv_iconst (v := (nI 0)) hx hb dX7_again_26 (by decide) ?_
      refine lv_topi (fun y10 ex => ?_)
      replace hf := bnd_at ex hf
      clear ex
      refine lv_istore_n (lv' := [(3, .int y10), (0, .ref (bb E 32)), (1, .int x1), (2, .int x2)]) hx hb dX7_again_27 rfl hl (by decide) rfl (fun ls hl => ?_)
      exact w_X7_again_28 X N N S7 x1 x2 y10 hf _ _ hH _ (lv_sub hl [1, 2, 3, 0] rfl)
    · replace hf := ite_t c0 hf
      refine lv_bipush (v := (-2 : Int32)) hx hb dX7_again_19 (by decide) ?_
      exact r_iret X hH hf dX7_again_21
  · replace hf := ite_t c0 hf
    refine lv_iconst (v := (-1 : Int32)) hx hb dX7_again_8 (by decide) ?_
    exact r_iret X hH hf dX7_again_9
theorem c_X7_again {l : Launch} {E : Ev} (N : Nat) (S : St) (x1 : Int32) (x2 : Int32) {r : Int32} {S1 : St} (hf : f_X7_again N S x1 x2 = some (r, S1)) : Ct l yX7_again (.code yX7_again cX7_again 5 (some .int)) 5 E [.ref (bb E 32), .int x1, .int x2] S (QI E r S1) := by
  refine Ct.of (by decide) (Nat.le_of_ble_eq_true rfl) (fun p e s m below meth c ls X hH hl => ?_)
  exact w_X7_again_0 X N S x1 x2 hf _ _ hH _ hl
set_option maxRecDepth 100000 in
set_option maxHeartbeats 4000000 in
theorem w_X7_against_23 {p : Program} {l : Launch} {e : Env} {s : State} {m : MethodId} {args : Array Value} {below : List Frame} {meth : Method} {c : Code} {E : Ev} {r : Int32} {S1 : St} (X : GX p s m meth c args cX7_against 5 (some .int) RX7 E) (N : Nat) : ∀ (S : St) (x1 : Int32) (x3 : Int32) (x4 : Int32), f_X7_against_23 N S x1 x3 x4 = some (r, S1) → ∀ (H : Heap) (locs : List Loc), HH E S s H locs → ∀ ls : Array Slot, lv_has ls 5 [(0, .ref (bb E 32)), (1, .int x1), (3, .int x3), (4, .int x4)] → W p l e (rmL 1) s m args below meth c H locs 0 0 (MQ below (QI E r S1 s.heap.size) args s 0 0 (AA E s.heap.size)) (F0 m 23 ls []) := by
  have hx := X.1
  have hb := X.2.1
  intro S x1 x3 x4 hf H locs hH ls hl
  rw [f_X7_against_23] at hf
  refine lv_aload_n hx hb dX7_against_23 rfl (lv_at hl 0 rfl) ?_
  refine fg_X7_9 X hH dX7_against_24 ?_
  refine lv_iload_n hx hb dX7_against_27 rfl (lv_at hl 1 rfl) ?_
  obtain ⟨g, hf⟩ := ite_g hf
  refine r_iald X hH (a_33 E) g dX7_against_28 ?_
  refine lv_bipush (v := (-9 : Int32)) hx hb dX7_against_29 (by decide) ?_
  refine lv_icmp_ne (tgt := 36) hx hb dX7_against_31 (by decide) (fun c0 => ?_) (fun c0 => ?_)
  · replace hf := ite_f c0 hf
    refine lv_iload hx hb dX7_against_36 (lv_at hl 3 rfl) ?_
    refine lv_if_ge (tgt := 43) hx hb dX7_against_38 (by decide) (fun c0 => ?_) (fun c0 => ?_)
    · replace hf := ite_t c0 hf
      refine lv_iload_n hx hb dX7_against_43 rfl (lv_at hl 2 rfl) ?_
      refine lv_if_lt (tgt := 70) hx hb dX7_against_44 (by decide) (fun c0 => ?_) (fun c0 => ?_)
      · replace hf := ite_t c0 hf
        refine lv_iconst (v := (nI 3)) hx hb dX7_against_70 (by decide) ?_
        refine lv_goto (tgt := 75) hx hb dX7_against_71 (by decide) ?_
        exact r_iret X hH hf dX7_against_75
      · replace hf := ite_f c0 hf
        refine lv_iload_n hx hb dX7_against_47 rfl (lv_at hl 2 rfl) ?_
        refine lv_aload_n hx hb dX7_against_48 rfl (lv_at hl 0 rfl) ?_
        refine fg_X7_13 X hH dX7_against_49 ?_
        refine lv_iload_n hx hb dX7_against_52 rfl (lv_at hl 1 rfl) ?_
        obtain ⟨g, hf⟩ := ite_g hf
        refine r_iald X hH (a_34 E) g dX7_against_53 ?_
        refine lv_icmp_gt (tgt := 70) hx hb dX7_against_54 (by decide) (fun c0 => ?_) (fun c0 => ?_)
        · replace hf := ite_t c0 hf
          refine lv_iconst (v := (nI 3)) hx hb dX7_against_70 (by decide) ?_
          refine lv_goto (tgt := 75) hx hb dX7_against_71 (by decide) ?_
          exact r_iret X hH hf dX7_against_75
        · replace hf := ite_f c0 hf
          refine lv_iload hx hb dX7_against_57 (lv_at hl 3 rfl) ?_
          refine lv_aload_n hx hb dX7_against_59 rfl (lv_at hl 0 rfl) ?_
          refine fg_X7_13 X hH dX7_against_60 ?_
          refine lv_iload_n hx hb dX7_against_63 rfl (lv_at hl 1 rfl) ?_
          obtain ⟨g, hf⟩ := ite_g hf
          refine r_iald X hH (a_34 E) g dX7_against_64 ?_
          refine lv_iload_n hx hb dX7_against_65 rfl (lv_at hl 2 rfl) ?_
          refine lv_isub hx hb dX7_against_66 ?_
          refine lv_icmp_le (tgt := 74) hx hb dX7_against_67 (by decide) (fun c0 => ?_) (fun c0 => ?_)
          · replace hf := ite_t c0 hf
            refine lv_iconst (v := (nI 0)) hx hb dX7_against_74 (by decide) ?_
            exact r_iret X hH hf dX7_against_75
          · replace hf := ite_f c0 hf
            refine lv_iconst (v := (nI 3)) hx hb dX7_against_70 (by decide) ?_
            refine lv_goto (tgt := 75) hx hb dX7_against_71 (by decide) ?_
            exact r_iret X hH hf dX7_against_75
    · replace hf := ite_f c0 hf
      refine lv_iconst (v := (nI 4)) hx hb dX7_against_41 (by decide) ?_
      exact r_iret X hH hf dX7_against_42
  · replace hf := ite_t c0 hf
    refine lv_iconst (v := (nI 1)) hx hb dX7_against_34 (by decide) ?_
    exact r_iret X hH hf dX7_against_35
set_option maxRecDepth 100000 in
set_option maxHeartbeats 4000000 in
theorem w_X7_against_0 {p : Program} {l : Launch} {e : Env} {s : State} {m : MethodId} {args : Array Value} {below : List Frame} {meth : Method} {c : Code} {E : Ev} {r : Int32} {S1 : St} (X : GX p s m meth c args cX7_against 5 (some .int) RX7 E) (N : Nat) : ∀ (S : St) (x1 : Int32) (x2 : Int32) (x3 : Int32) (x4 : Int32), f_X7_against N S x1 x2 x3 x4 = some (r, S1) → ∀ (H : Heap) (locs : List Loc), HH E S s H locs → ∀ ls : Array Slot, lv_has ls 5 [(0, .ref (bb E 32)), (1, .int x1), (2, .int x2), (3, .int x3), (4, .int x4)] → W p l e (rmL 1) s m args below meth c H locs 0 0 (MQ below (QI E r S1 s.heap.size) args s 0 0 (AA E s.heap.size)) (F0 m 0 ls []) := by
  have hx := X.1
  have hb := X.2.1
  intro S x1 x2 x3 x4 hf H locs hH ls hl
  rw [f_X7_against] at hf
  refine lv_aload_n hx hb dX7_against_0 rfl (lv_at hl 0 rfl) ?_
  refine fg_X7_9 X hH dX7_against_1 ?_
  refine lv_iload_n hx hb dX7_against_4 rfl (lv_at hl 1 rfl) ?_
  obtain ⟨g, hf⟩ := ite_g hf
  refine r_iald X hH (a_33 E) g dX7_against_5 ?_
  refine lv_bipush (v := (-9 : Int32)) hx hb dX7_against_6 (by decide) ?_
  refine lv_icmp_eq (tgt := 23) hx hb dX7_against_8 (by decide) (fun c0 => ?_) (fun c0 => ?_)
  · replace hf := ite_t c0 hf
    exact w_X7_against_23 X N S x1 x3 x4 hf _ _ hH _ (lv_sub hl [0, 1, 3, 4] rfl)
  · replace hf := ite_f c0 hf
    refine lv_aload_n hx hb dX7_against_11 rfl (lv_at hl 0 rfl) ?_
    refine fg_X7_9 X hH dX7_against_12 ?_
    refine lv_iload_n hx hb dX7_against_15 rfl (lv_at hl 1 rfl) ?_
    obtain ⟨g, hf⟩ := ite_g hf
    refine r_iald X hH (a_33 E) g dX7_against_16 ?_
    refine lv_iload_n hx hb dX7_against_17 rfl (lv_at hl 2 rfl) ?_
    refine lv_icmp_eq (tgt := 23) hx hb dX7_against_18 (by decide) (fun c0 => ?_) (fun c0 => ?_)
    · replace hf := ite_t c0 hf
      exact w_X7_against_23 X N S x1 x3 x4 hf _ _ hH _ (lv_sub hl [0, 1, 3, 4] rfl)
    · replace hf := ite_f c0 hf
      refine lv_iconst (v := (nI 2)) hx hb dX7_against_21 (by decide) ?_
      exact r_iret X hH hf dX7_against_22
theorem c_X7_against {l : Launch} {E : Ev} (N : Nat) (S : St) (x1 : Int32) (x2 : Int32) (x3 : Int32) (x4 : Int32) {r : Int32} {S1 : St} (hf : f_X7_against N S x1 x2 x3 x4 = some (r, S1)) : Ct l yX7_against (.code yX7_against cX7_against 5 (some .int)) 1 E [.ref (bb E 32), .int x1, .int x2, .int x3, .int x4] S (QI E r S1) := by
  refine Ct.of (by decide) (Nat.le_of_ble_eq_true rfl) (fun p e s m below meth c ls X hH hl => ?_)
  exact w_X7_against_0 X N S x1 x2 x3 x4 hf _ _ hH _ hl
set_option maxRecDepth 100000 in
set_option maxHeartbeats 4000000 in
theorem w_X7_plays_70 {p : Program} {l : Launch} {e : Env} {s : State} {m : MethodId} {args : Array Value} {below : List Frame} {meth : Method} {c : Code} {E : Ev} {r : Unit} {S1 : St} (X : GX p s m meth c args cX7_plays 5 none RX7 E) (N : Nat) (k27 : St → Int32 → Option (Unit × St)) (hk27 : ∀ (S : St) (x2 : Int32), k27 S x2 = some (r, S1) → ∀ (H : Heap) (locs : List Loc), HH E S s H locs → ∀ ls : Array Slot, lv_has ls 5 [(0, .ref (bb E 32)), (2, .int x2)] → W p l e (rmL 4) s m args below meth c H locs 0 0 (MQ below (QV E r S1 s.heap.size) args s 0 0 (AA E s.heap.size)) (F0 m 27 ls [])) : ∀ (S : St) (x2 : Int32) (x3 : Int32), f_X7_plays_70 N k27 S x2 x3 = some (r, S1) → ∀ (H : Heap) (locs : List Loc), HH E S s H locs → ∀ ls : Array Slot, lv_has ls 5 [(0, .ref (bb E 32)), (2, .int x2), (3, .int x3)] → W p l e (rmL 4) s m args below meth c H locs 0 0 (MQ below (QV E r S1 s.heap.size) args s 0 0 (AA E s.heap.size)) (F0 m 70 ls []) := by
  have hx := X.1
  have hb := X.2.1
  intro S x2 x3 hf H locs hH ls hl
  rw [f_X7_plays_70] at hf
  refine lv_aload_n hx hb dX7_plays_70 rfl (lv_at hl 0 rfl) ?_
  refine fg_X7_52 X hH dX7_plays_71 ?_
  refine lv_iload_n hx hb dX7_plays_74 rfl (lv_at hl 1 rfl) ?_
  obtain ⟨g, hf⟩ := ite_g hf
  refine r_iald X hH (a_47 E) g dX7_plays_75 ?_
  refine lv_if_ne (tgt := 85) hx hb dX7_plays_76 (by decide) (fun c0 => ?_) (fun c0 => ?_)
  · replace hf := ite_f c0 hf
    refine lv_aload_n hx hb dX7_plays_85 rfl (lv_at hl 0 rfl) ?_
    refine fg_X7_28 X hH dX7_plays_86 ?_
    refine lv_iconst (v := (nI 4)) hx hb dX7_plays_89 (by decide) ?_
    refine lv_iload_n hx hb dX7_plays_90 rfl (lv_at hl 2 rfl) ?_
    refine lv_imul hx hb dX7_plays_91 ?_
    refine lv_aload_n hx hb dX7_plays_92 rfl (lv_at hl 0 rfl) ?_
    refine fg_X7_55 X hH dX7_plays_93 ?_
    refine lv_iload_n hx hb dX7_plays_96 rfl (lv_at hl 1 rfl) ?_
    obtain ⟨g, hf⟩ := ite_g hf
    refine r_iald X hH (a_48 E) g dX7_plays_97 ?_
    refine lv_iadd hx hb dX7_plays_98 ?_
    obtain ⟨g, hf⟩ := ite_g hf
    refine r_iald X hH (a_39 E) g dX7_plays_99 ?_
    refine lv_topi (fun y1 ex => ?_)
    replace hf := bnd_at ex hf
    clear ex
    refine lv_istore (lv' := [(4, .int y1), (0, .ref (bb E 32)), (2, .int x2), (3, .int x3)]) hx hb dX7_plays_100 hl (by decide) rfl (fun ls hl => ?_)
    refine lv_aload_n hx hb dX7_plays_102 rfl (lv_at hl 1 rfl) ?_
    refine fg_X7_55 X hH dX7_plays_103 ?_
    refine lv_iload_n hx hb dX7_plays_106 rfl (lv_at hl 2 rfl) ?_
    refine lv_dup2_11 hx hb dX7_plays_107 rfl rfl ?_
    obtain ⟨g, hf⟩ := ite_g hf
    refine r_iald X hH (a_48 E) g dX7_plays_108 ?_
    refine lv_iconst (v := (nI 1)) hx hb dX7_plays_109 (by decide) ?_
    refine lv_iadd hx hb dX7_plays_110 ?_
    obtain ⟨g, hf⟩ := ite_g hf
    refine r_iast X hH (a_48 E) g dX7_plays_111 (fun H locs hH => ?_)
    obtain ⟨S2, ex, hf⟩ := bnd_go hf
    replace hH := HH_eq ex hH
    clear ex
    refine lv_iload hx hb dX7_plays_112 (lv_at hl 0 rfl) ?_
    refine lv_bipush (v := (nI 8)) hx hb dX7_plays_114 (by decide) ?_
    refine lv_icmp_ge (tgt := 129) hx hb dX7_plays_116 (by decide) (fun c0 => ?_) (fun c0 => ?_)
    · replace hf := ite_t c0 hf
      obtain ⟨y3, ex, hf⟩ := bnd_go hf
      refine lv_iinc (v := y3) (lv' := [(2, .int y3), (4, .int y1), (0, .ref (bb E 32)), (3, .int x3)]) hx hb dX7_plays_129 hl (k := 2) rfl (by rw [ex]; rfl) (by decide) rfl (fun ls hl => ?_)
      clear ex
      refine lv_aload_n hx hb dX7_plays_132 rfl (lv_at hl 2 rfl) ?_
      refine fg_X7_49 X hH dX7_plays_133 ?_
      refine lv_iload_n hx hb dX7_plays_136 rfl (lv_at hl 0 rfl) ?_
      refine lv_iload hx hb dX7_plays_137 (lv_at hl 1 rfl) ?_
      refine lv_bipush (v := (nI 8)) hx hb dX7_plays_139 (by decide) ?_
      refine lv_isub hx hb dX7_plays_141 ?_
      obtain ⟨g, hf⟩ := ite_g hf
      refine r_iast X hH (a_46 E) g dX7_plays_142 (fun H locs hH => ?_)
      obtain ⟨S4, ex, hf⟩ := bnd_go hf
      replace hH := HH_eq ex hH
      clear ex
      refine lv_aload_n hx hb dX7_plays_143 rfl (lv_at hl 2 rfl) ?_
      refine fg_X7_52 X hH dX7_plays_144 ?_
      refine lv_iload_n hx hb dX7_plays_147 rfl (lv_at hl 0 rfl) ?_
      refine lv_aload_n hx hb dX7_plays_148 rfl (lv_at hl 2 rfl) ?_
      refine lv_aload_n hx hb dX7_plays_149 rfl (lv_at hl 2 rfl) ?_
      refine fg_X7_49 X hH dX7_plays_150 ?_
      refine lv_iload_n hx hb dX7_plays_153 rfl (lv_at hl 0 rfl) ?_
      obtain ⟨g, hf⟩ := ite_g hf
      refine r_iald X hH (a_46 E) g dX7_plays_154 ?_
      obtain ⟨r7, S5, h6, hf⟩ := cal_g hf
      refine go_i hH (run_V X hH (rest := [.int y3, .ref (bb E 47)]) (c_X7_oftenOf N S4 (S4 46 y3.toNatClampNeg) h6) gm_X7_131 (by decide) (e_32 E _) rfl rfl hl.1 (rmL_ok (by decide) (by decide)) (Nat.le_of_ble_eq_true rfl) rfl dX7_plays_155) (fun H locs hH => ?_)
      clear h6
      obtain ⟨g, hf⟩ := ite_g hf
      refine r_iast X hH (a_47 E) g dX7_plays_158 (fun H locs hH => ?_)
      obtain ⟨S8, ex, hf⟩ := bnd_go hf
      replace hH := HH_eq ex hH
      clear ex
      refine lv_aload_n hx hb dX7_plays_159 rfl (lv_at hl 2 rfl) ?_
      refine fg_X7_55 X hH dX7_plays_160 ?_
      refine lv_iload_n hx hb dX7_plays_163 rfl (lv_at hl 0 rfl) ?_
      refine lv_iconst (v := (nI 0)) hx hb dX7_plays_164 (by decide) ?_
      obtain ⟨g, hf⟩ := ite_g hf
      refine r_iast X hH (a_48 E) g dX7_plays_165 (fun H locs hH => ?_)
      obtain ⟨S9, ex, hf⟩ := bnd_go hf
      replace hH := HH_eq ex hH
      clear ex
      refine lv_goto (tgt := 27) hx hb dX7_plays_166 (by decide) ?_
      exact hk27 S9 y3 hf _ _ hH _ (lv_sub hl [2, 0] rfl)
    · replace hf := ite_f c0 hf
      refine lv_aload_n hx hb dX7_plays_119 rfl (lv_at hl 1 rfl) ?_
      refine lv_iload hx hb dX7_plays_120 (lv_at hl 0 rfl) ?_
      obtain ⟨r12, S10, h11, hf⟩ := cal_g hf
      refine go_i hH (run_V X hH (rest := []) (c_X7_presses N S2 y1 h11) gm_X7_162 (by decide) (e_32 E _) rfl rfl hl.1 (rmL_ok (by decide) (by decide)) (Nat.le_of_ble_eq_true rfl) rfl dX7_plays_122) (fun H locs hH => ?_)
      clear h11
      refine lv_pop hx hb dX7_plays_125 rfl ?_
      refine lv_goto (tgt := 166) hx hb dX7_plays_126 (by decide) ?_
      refine lv_goto (tgt := 27) hx hb dX7_plays_166 (by decide) ?_
      exact hk27 S10 x2 hf _ _ hH _ (lv_sub hl [1, 2] rfl)
  · replace hf := ite_t c0 hf
    obtain ⟨y13, ex, hf⟩ := bnd_go hf
    refine lv_iinc (v := y13) (lv' := [(2, .int y13), (0, .ref (bb E 32)), (3, .int x3)]) hx hb dX7_plays_79 hl (k := 1) rfl (by rw [ex]; rfl) (by decide) rfl (fun ls hl => ?_)
    clear ex
    refine lv_goto (tgt := 166) hx hb dX7_plays_82 (by decide) ?_
    refine lv_goto (tgt := 27) hx hb dX7_plays_166 (by decide) ?_
    exact hk27 S y13 hf _ _ hH _ (lv_sub hl [1, 0] rfl)
set_option maxRecDepth 100000 in
set_option maxHeartbeats 4000000 in
theorem w_X7_plays_27 {p : Program} {l : Launch} {e : Env} {s : State} {m : MethodId} {args : Array Value} {below : List Frame} {meth : Method} {c : Code} {E : Ev} {r : Unit} {S1 : St} (X : GX p s m meth c args cX7_plays 5 none RX7 E) (N : Nat) : ∀ (n : Nat) (S : St) (x2 : Int32), f_X7_plays_27 N n S x2 = some (r, S1) → ∀ (H : Heap) (locs : List Loc), HH E S s H locs → ∀ ls : Array Slot, lv_has ls 5 [(0, .ref (bb E 32)), (2, .int x2)] → W p l e (rmL 4) s m args below meth c H locs 0 0 (MQ below (QV E r S1 s.heap.size) args s 0 0 (AA E s.heap.size)) (F0 m 27 ls []) := by
  have hx := X.1
  have hb := X.2.1
  intro n
  induction n with
  | zero =>
    intro S x2 hf
    cases hf
  | succ n ih =>
    intro S x2 hf H locs hH ls hl
    rw [f_X7_plays_27] at hf
    refine lv_iload_n hx hb dX7_plays_27 rfl (lv_at hl 1 rfl) ?_
    refine lv_if_lt (tgt := 169) hx hb dX7_plays_28 (by decide) (fun c0 => ?_) (fun c0 => ?_)
    · replace hf := ite_t c0 hf
      exact r_vret X hH hf dX7_plays_169
    · replace hf := ite_f c0 hf
      refine lv_aload_n hx hb dX7_plays_31 rfl (lv_at hl 0 rfl) ?_
      refine fg_X7_49 X hH dX7_plays_32 ?_
      refine lv_iload_n hx hb dX7_plays_35 rfl (lv_at hl 1 rfl) ?_
      obtain ⟨g, hf⟩ := ite_g hf
      refine r_iald X hH (a_46 E) g dX7_plays_36 ?_
      refine lv_topi (fun y1 ex => ?_)
      replace hf := bnd_at ex hf
      clear ex
      refine lv_istore_n (lv' := [(3, .int y1), (0, .ref (bb E 32)), (2, .int x2)]) hx hb dX7_plays_37 rfl hl (by decide) rfl (fun ls hl => ?_)
      refine lv_aload_n hx hb dX7_plays_38 rfl (lv_at hl 1 rfl) ?_
      refine fg_X7_55 X hH dX7_plays_39 ?_
      refine lv_iload_n hx hb dX7_plays_42 rfl (lv_at hl 2 rfl) ?_
      obtain ⟨g, hf⟩ := ite_g hf
      refine r_iald X hH (a_48 E) g dX7_plays_43 ?_
      refine lv_aload_n hx hb dX7_plays_44 rfl (lv_at hl 1 rfl) ?_
      refine fg_X7_25 X hH dX7_plays_45 ?_
      refine lv_iload_n hx hb dX7_plays_48 rfl (lv_at hl 0 rfl) ?_
      obtain ⟨g, hf⟩ := ite_g hf
      refine r_iald X hH (a_38 E) g dX7_plays_49 ?_
      refine lv_icmp_ne (tgt := 70) hx hb dX7_plays_50 (by decide) (fun c0 => ?_) (fun c0 => ?_)
      · replace hf := ite_f c0 hf
        exact w_X7_plays_70 X N (f_X7_plays_27 N n) ih S x2 y1 hf _ _ hH _ (lv_sub hl [1, 2, 0] rfl)
      · replace hf := ite_t c0 hf
        refine lv_aload_n hx hb dX7_plays_53 rfl (lv_at hl 1 rfl) ?_
        refine fg_X7_55 X hH dX7_plays_54 ?_
        refine lv_iload_n hx hb dX7_plays_57 rfl (lv_at hl 2 rfl) ?_
        refine lv_iconst (v := (nI 0)) hx hb dX7_plays_58 (by decide) ?_
        obtain ⟨g, hf⟩ := ite_g hf
        refine r_iast X hH (a_48 E) g dX7_plays_59 (fun H locs hH => ?_)
        obtain ⟨S2, ex, hf⟩ := bnd_go hf
        replace hH := HH_eq ex hH
        clear ex
        refine lv_aload_n hx hb dX7_plays_60 rfl (lv_at hl 1 rfl) ?_
        refine fg_X7_52 X hH dX7_plays_61 ?_
        refine lv_iload_n hx hb dX7_plays_64 rfl (lv_at hl 2 rfl) ?_
        refine lv_dup2_11 hx hb dX7_plays_65 rfl rfl ?_
        obtain ⟨g, hf⟩ := ite_g hf
        refine r_iald X hH (a_47 E) g dX7_plays_66 ?_
        refine lv_iconst (v := (nI 1)) hx hb dX7_plays_67 (by decide) ?_
        refine lv_isub hx hb dX7_plays_68 ?_
        obtain ⟨g, hf⟩ := ite_g hf
        refine r_iast X hH (a_47 E) g dX7_plays_69 (fun H locs hH => ?_)
        obtain ⟨S3, ex, hf⟩ := bnd_go hf
        replace hH := HH_eq ex hH
        clear ex
        exact w_X7_plays_70 X N (f_X7_plays_27 N n) ih S3 x2 y1 hf _ _ hH _ (lv_sub hl [1, 2, 0] rfl)
set_option maxRecDepth 100000 in
set_option maxHeartbeats 4000000 in
theorem w_X7_plays_0 {p : Program} {l : Launch} {e : Env} {s : State} {m : MethodId} {args : Array Value} {below : List Frame} {meth : Method} {c : Code} {E : Ev} {r : Unit} {S1 : St} (X : GX p s m meth c args cX7_plays 5 none RX7 E) (N : Nat) : ∀ (S : St) (x1 : Int32), f_X7_plays N S x1 = some (r, S1) → ∀ (H : Heap) (locs : List Loc), HH E S s H locs → ∀ ls : Array Slot, lv_has ls 5 [(0, .ref (bb E 32)), (1, .int x1)] → W p l e (rmL 4) s m args below meth c H locs 0 0 (MQ below (QV E r S1 s.heap.size) args s 0 0 (AA E s.heap.size)) (F0 m 0 ls []) := by
  have hx := X.1
  have hb := X.2.1
  intro S x1 hf H locs hH ls hl
  rw [f_X7_plays] at hf
  refine lv_iconst (v := (nI 0)) hx hb dX7_plays_0 (by decide) ?_
  refine lv_topi (fun y1 ex => ?_)
  replace hf := bnd_at ex hf
  clear ex
  refine lv_istore_n (lv' := [(2, .int y1), (0, .ref (bb E 32)), (1, .int x1)]) hx hb dX7_plays_1 rfl hl (by decide) rfl (fun ls hl => ?_)
  refine lv_aload_n hx hb dX7_plays_2 rfl (lv_at hl 1 rfl) ?_
  refine fg_X7_49 X hH dX7_plays_3 ?_
  refine lv_iconst (v := (nI 0)) hx hb dX7_plays_6 (by decide) ?_
  refine lv_iload_n hx hb dX7_plays_7 rfl (lv_at hl 2 rfl) ?_
  obtain ⟨g, hf⟩ := ite_g hf
  refine r_iast X hH (a_46 E) g dX7_plays_8 (fun H locs hH => ?_)
  obtain ⟨S2, ex, hf⟩ := bnd_go hf
  replace hH := HH_eq ex hH
  clear ex
  refine lv_aload_n hx hb dX7_plays_9 rfl (lv_at hl 1 rfl) ?_
  refine fg_X7_52 X hH dX7_plays_10 ?_
  refine lv_iconst (v := (nI 0)) hx hb dX7_plays_13 (by decide) ?_
  refine lv_aload_n hx hb dX7_plays_14 rfl (lv_at hl 1 rfl) ?_
  refine lv_iload_n hx hb dX7_plays_15 rfl (lv_at hl 2 rfl) ?_
  obtain ⟨r5, S3, h4, hf⟩ := cal_g hf
  refine go_i hH (run_V X hH (rest := [.int (nI 0), .ref (bb E 47)]) (c_X7_oftenOf N S2 x1 h4) gm_X7_131 (by decide) (e_32 E _) rfl rfl hl.1 (rmL_ok (by decide) (by decide)) (Nat.le_of_ble_eq_true rfl) rfl dX7_plays_16) (fun H locs hH => ?_)
  clear h4
  obtain ⟨g, hf⟩ := ite_g hf
  refine r_iast X hH (a_47 E) g dX7_plays_19 (fun H locs hH => ?_)
  obtain ⟨S6, ex, hf⟩ := bnd_go hf
  replace hH := HH_eq ex hH
  clear ex
  refine lv_aload_n hx hb dX7_plays_20 rfl (lv_at hl 1 rfl) ?_
  refine fg_X7_55 X hH dX7_plays_21 ?_
  refine lv_iconst (v := (nI 0)) hx hb dX7_plays_24 (by decide) ?_
  refine lv_iconst (v := (nI 0)) hx hb dX7_plays_25 (by decide) ?_
  obtain ⟨g, hf⟩ := ite_g hf
  refine r_iast X hH (a_48 E) g dX7_plays_26 (fun H locs hH => ?_)
  obtain ⟨S7, ex, hf⟩ := bnd_go hf
  replace hH := HH_eq ex hH
  clear ex
  exact w_X7_plays_27 X N N S7 y1 hf _ _ hH _ (lv_sub hl [1, 0] rfl)
theorem c_X7_plays {l : Launch} {E : Ev} (N : Nat) (S : St) (x1 : Int32) {r : Unit} {S1 : St} (hf : f_X7_plays N S x1 = some (r, S1)) : Ct l yX7_plays (.code yX7_plays cX7_plays 5 none) 4 E [.ref (bb E 32), .int x1] S (QV E r S1) := by
  refine Ct.of (by decide) (Nat.le_of_ble_eq_true rfl) (fun p e s m below meth c ls X hH hl => ?_)
  exact w_X7_plays_0 X N S x1 hf _ _ hH _ hl
set_option maxRecDepth 100000 in
set_option maxHeartbeats 4000000 in
theorem w_X7_areSo_2 {p : Program} {l : Launch} {e : Env} {s : State} {m : MethodId} {args : Array Value} {below : List Frame} {meth : Method} {c : Code} {E : Ev} {r : Int32} {S1 : St} (X : GX p s m meth c args cX7_areSo 2 (some .boolean) RX7 E) (N : Nat) : ∀ (n : Nat) (S : St) (x1 : Int32), f_X7_areSo_2 N n S x1 = some (r, S1) → ∀ (H : Heap) (locs : List Loc), HH E S s H locs → ∀ ls : Array Slot, lv_has ls 2 [(0, .ref (bb E 32)), (1, .int x1)] → W p l e (rmL 5) s m args below meth c H locs 0 0 (MQ below (QI E r S1 s.heap.size) args s 0 0 (AA E s.heap.size)) (F0 m 2 ls []) := by
  have hx := X.1
  have hb := X.2.1
  intro n
  induction n with
  | zero =>
    intro S x1 hf
    cases hf
  | succ n ih =>
    intro S x1 hf H locs hH ls hl
    rw [f_X7_areSo_2] at hf
    refine lv_iload_n hx hb dX7_areSo_2 rfl (lv_at hl 1 rfl) ?_
    refine lv_aload_n hx hb dX7_areSo_3 rfl (lv_at hl 0 rfl) ?_
    refine fg_X7_117 X hH dX7_areSo_4 ?_
    refine lv_icmp_ge (tgt := 46) hx hb dX7_areSo_7 (by decide) (fun c0 => ?_) (fun c0 => ?_)
    · replace hf := ite_t c0 hf
      refine lv_iconst (v := (nI 1)) hx hb dX7_areSo_46 (by decide) ?_
      exact r_zret X hH (by decide) hf dX7_areSo_47
    · replace hf := ite_f c0 hf
      refine lv_aload_n hx hb dX7_areSo_10 rfl (lv_at hl 0 rfl) ?_
      refine lv_iconst (v := (nI 0)) hx hb dX7_areSo_11 (by decide) ?_
      obtain ⟨_, S1, h2, hf⟩ := cal_g hf
      refine go_v hH (run_V X hH (rest := []) (c_X7_workOn N S (nI 0) h2) gm_X7_165 (by decide) (e_32 E _) rfl rfl hl.1 (rmL_ok (by decide) (by decide)) (Nat.le_of_ble_eq_true rfl) rfl dX7_areSo_12) (fun H locs hH => ?_)
      clear h2
      refine lv_aload_n hx hb dX7_areSo_15 rfl (lv_at hl 0 rfl) ?_
      refine lv_aload_n hx hb dX7_areSo_16 rfl (lv_at hl 0 rfl) ?_
      refine fg_X7_68 X hH dX7_areSo_17 ?_
      refine lv_iload_n hx hb dX7_areSo_20 rfl (lv_at hl 1 rfl) ?_
      obtain ⟨g, hf⟩ := ite_g hf
      refine r_iald X hH (a_52 E) g dX7_areSo_21 ?_
      obtain ⟨_, S4, h5, hf⟩ := cal_g hf
      refine go_v hH (run_V X hH (rest := []) (c_X7_plays N S1 (S1 52 x1.toNatClampNeg) h5) gm_X7_173 (by decide) (e_32 E _) rfl rfl hl.1 (rmL_ok (by decide) (by decide)) (Nat.le_of_ble_eq_true rfl) rfl dX7_areSo_22) (fun H locs hH => ?_)
      clear h5
      refine lv_aload_n hx hb dX7_areSo_25 rfl (lv_at hl 0 rfl) ?_
      refine fg_X7_140 X hH dX7_areSo_26 ?_
      refine lv_aload_n hx hb dX7_areSo_29 rfl (lv_at hl 0 rfl) ?_
      refine fg_X7_71 X hH dX7_areSo_30 ?_
      refine lv_iload_n hx hb dX7_areSo_33 rfl (lv_at hl 1 rfl) ?_
      obtain ⟨g, hf⟩ := ite_g hf
      refine r_iald X hH (a_53 E) g dX7_areSo_34 ?_
      refine lv_icmp_eq (tgt := 40) hx hb dX7_areSo_35 (by decide) (fun c0 => ?_) (fun c0 => ?_)
      · replace hf := ite_t c0 hf
        obtain ⟨y7, ex, hf⟩ := bnd_go hf
        refine lv_iinc (v := y7) (lv' := [(1, .int y7), (0, .ref (bb E 32))]) hx hb dX7_areSo_40 hl (k := 1) rfl (by rw [ex]; rfl) (by decide) rfl (fun ls hl => ?_)
        clear ex
        refine lv_goto (tgt := 2) hx hb dX7_areSo_43 (by decide) ?_
        exact ih S4 y7 hf _ _ hH _ (lv_sub hl [1, 0] rfl)
      · replace hf := ite_f c0 hf
        refine lv_iconst (v := (nI 0)) hx hb dX7_areSo_38 (by decide) ?_
        exact r_zret X hH (by decide) hf dX7_areSo_39
set_option maxRecDepth 100000 in
set_option maxHeartbeats 4000000 in
theorem w_X7_areSo_0 {p : Program} {l : Launch} {e : Env} {s : State} {m : MethodId} {args : Array Value} {below : List Frame} {meth : Method} {c : Code} {E : Ev} {r : Int32} {S1 : St} (X : GX p s m meth c args cX7_areSo 2 (some .boolean) RX7 E) (N : Nat) : ∀ (S : St), f_X7_areSo N S = some (r, S1) → ∀ (H : Heap) (locs : List Loc), HH E S s H locs → ∀ ls : Array Slot, lv_has ls 2 [(0, .ref (bb E 32))] → W p l e (rmL 5) s m args below meth c H locs 0 0 (MQ below (QI E r S1 s.heap.size) args s 0 0 (AA E s.heap.size)) (F0 m 0 ls []) := by
  have hx := X.1
  have hb := X.2.1
  intro S hf H locs hH ls hl
  rw [f_X7_areSo] at hf
  refine lv_iconst (v := (nI 0)) hx hb dX7_areSo_0 (by decide) ?_
  refine lv_topi (fun y1 ex => ?_)
  replace hf := bnd_at ex hf
  clear ex
  refine lv_istore_n (lv' := [(1, .int y1), (0, .ref (bb E 32))]) hx hb dX7_areSo_1 rfl hl (by decide) rfl (fun ls hl => ?_)
  exact w_X7_areSo_2 X N N S y1 hf _ _ hH _ (lv_sub hl [1, 0] rfl)
theorem c_X7_areSo {l : Launch} {E : Ev} (N : Nat) (S : St) {r : Int32} {S1 : St} (hf : f_X7_areSo N S = some (r, S1)) : Ct l yX7_areSo (.code yX7_areSo cX7_areSo 2 (some .boolean)) 5 E [.ref (bb E 32)] S (QI E r S1) := by
  refine Ct.of (by decide) (Nat.le_of_ble_eq_true rfl) (fun p e s m below meth c ls X hH hl => ?_)
  exact w_X7_areSo_0 X N S hf _ _ hH _ hl
set_option maxRecDepth 100000 in
set_option maxHeartbeats 4000000 in
theorem w_X7_fails_0 {p : Program} {l : Launch} {e : Env} {s : State} {m : MethodId} {args : Array Value} {below : List Frame} {meth : Method} {c : Code} {E : Ev} {r : Int32} {S1 : St} (X : GX p s m meth c args cX7_fails 2 (some .int) RX7 E) (N : Nat) : ∀ (S : St) (x1 : Int32), f_X7_fails N S x1 = some (r, S1) → ∀ (H : Heap) (locs : List Loc), HH E S s H locs → ∀ ls : Array Slot, lv_has ls 2 [(0, .ref (bb E 32)), (1, .int x1)] → W p l e (rmL 1) s m args below meth c H locs 0 0 (MQ below (QI E r S1 s.heap.size) args s 0 0 (AA E s.heap.size)) (F0 m 0 ls []) := by
  have hx := X.1
  have hb := X.2.1
  intro S x1 hf H locs hH ls hl
  rw [f_X7_fails] at hf
  refine lv_aload_n hx hb dX7_fails_0 rfl (lv_at hl 0 rfl) ?_
  refine lv_iload_n hx hb dX7_fails_1 rfl (lv_at hl 1 rfl) ?_
  refine fp_X7_74 X hH dX7_fails_2 (fun H locs hH => ?_)
  obtain ⟨S1, ex, hf⟩ := bnd_go hf
  replace hH := HH_eq ex hH
  clear ex
  refine lv_bipush (v := (-10 : Int32)) hx hb dX7_fails_5 (by decide) ?_
  refine lv_iload_n hx hb dX7_fails_7 rfl (lv_at hl 1 rfl) ?_
  refine lv_isub hx hb dX7_fails_8 ?_
  exact r_iret X hH hf dX7_fails_9
theorem c_X7_fails {l : Launch} {E : Ev} (N : Nat) (S : St) (x1 : Int32) {r : Int32} {S1 : St} (hf : f_X7_fails N S x1 = some (r, S1)) : Ct l yX7_fails (.code yX7_fails cX7_fails 2 (some .int)) 1 E [.ref (bb E 32), .int x1] S (QI E r S1) := by
  refine Ct.of (by decide) (Nat.le_of_ble_eq_true rfl) (fun p e s m below meth c ls X hH hl => ?_)
  exact w_X7_fails_0 X N S x1 hf _ _ hH _ hl
set_option maxRecDepth 100000 in
set_option maxHeartbeats 4000000 in
theorem w_X7_as_0 {p : Program} {l : Launch} {e : Env} {s : State} {m : MethodId} {args : Array Value} {below : List Frame} {meth : Method} {c : Code} {E : Ev} {r : Int32} {S1 : St} (X : GX p s m meth c args cX7_as 3 (some .int) RX7 E) (N : Nat) : ∀ (S : St) (x1 : Int32) (x2 : Int32), f_X7_as N S x1 x2 = some (r, S1) → ∀ (H : Heap) (locs : List Loc), HH E S s H locs → ∀ ls : Array Slot, lv_has ls 3 [(0, .ref (bb E 32)), (1, .int x1), (2, .int x2)] → W p l e (rmL 2) s m args below meth c H locs 0 0 (MQ below (QI E r S1 s.heap.size) args s 0 0 (AA E s.heap.size)) (F0 m 0 ls []) := by
  have hx := X.1
  have hb := X.2.1
  intro S x1 x2 hf H locs hH ls hl
  rw [f_X7_as] at hf
  refine lv_aload_n hx hb dX7_as_0 rfl (lv_at hl 0 rfl) ?_
  refine lv_iconst (v := (nI 0)) hx hb dX7_as_1 (by decide) ?_
  refine fp_X7_74 X hH dX7_as_2 (fun H locs hH => ?_)
  obtain ⟨S1, ex, hf⟩ := bnd_go hf
  replace hH := HH_eq ex hH
  clear ex
  refine lv_aload_n hx hb dX7_as_5 rfl (lv_at hl 0 rfl) ?_
  refine lv_iload_n hx hb dX7_as_6 rfl (lv_at hl 1 rfl) ?_
  obtain ⟨r4, S2, h3, hf⟩ := cal_g hf
  refine go_i hH (run_V X hH (rest := []) (c_X7_isMacro N S1 x1 h3) gm_X7_134 (by decide) (e_32 E _) rfl rfl hl.1 (rmL_ok (by decide) (by decide)) (Nat.le_of_ble_eq_true rfl) rfl dX7_as_7) (fun H locs hH => ?_)
  clear h3
  refine lv_if_ne (tgt := 15) hx hb dX7_as_10 (by decide) (fun c0 => ?_) (fun c0 => ?_)
  · replace hf := ite_f c0 hf
    refine lv_iload_n hx hb dX7_as_15 rfl (lv_at hl 2 rfl) ?_
    refine lv_iconst (v := (nI 0)) hx hb dX7_as_16 (by decide) ?_
    refine lv_iconst (v := (nI 2)) hx hb dX7_as_17 (by decide) ?_
    obtain ⟨r7, S5, h6, hf⟩ := cal_g hf
    refine go_i hH (run_S X hH (rest := []) (c_X7_within N S2 x2 (nI 0) (nI 2) h6) gm_X7_80 rfl hl.1 (rmL_ok (by decide) (by decide)) (Nat.le_of_ble_eq_true rfl) rfl dX7_as_18) (fun H locs hH => ?_)
    clear h6
    refine lv_if_ne (tgt := 27) hx hb dX7_as_21 (by decide) (fun c0 => ?_) (fun c0 => ?_)
    · replace hf := ite_f c0 hf
      refine lv_aload_n hx hb dX7_as_27 rfl (lv_at hl 0 rfl) ?_
      refine fg_X7_19 X hH dX7_as_28 ?_
      refine lv_iload_n hx hb dX7_as_31 rfl (lv_at hl 1 rfl) ?_
      obtain ⟨g, hf⟩ := ite_g hf
      refine r_iald X hH (a_36 E) g dX7_as_32 ?_
      refine lv_iload_n hx hb dX7_as_33 rfl (lv_at hl 2 rfl) ?_
      refine lv_icmp_lt (tgt := 41) hx hb dX7_as_34 (by decide) (fun c0 => ?_) (fun c0 => ?_)
      · replace hf := ite_t c0 hf
        refine lv_aload_n hx hb dX7_as_41 rfl (lv_at hl 0 rfl) ?_
        refine lv_iconst (v := (nI 2)) hx hb dX7_as_42 (by decide) ?_
        obtain ⟨r10, S8, h9, hf⟩ := cal_g hf
        refine go_i hH (run_V X hH (rest := []) (c_X7_fails N S5 (nI 2) h9) gm_X7_98 (by decide) (e_32 E _) rfl rfl hl.1 (rmL_ok (by decide) (by decide)) (Nat.le_of_ble_eq_true rfl) rfl dX7_as_43) (fun H locs hH => ?_)
        clear h9
        exact r_iret X hH hf dX7_as_46
      · replace hf := ite_f c0 hf
        refine lv_iconst (v := (nI 1)) hx hb dX7_as_37 (by decide) ?_
        refine lv_goto (tgt := 46) hx hb dX7_as_38 (by decide) ?_
        exact r_iret X hH hf dX7_as_46
    · replace hf := ite_t c0 hf
      refine lv_bipush (v := (-2 : Int32)) hx hb dX7_as_24 (by decide) ?_
      exact r_iret X hH hf dX7_as_26
  · replace hf := ite_t c0 hf
    refine lv_iconst (v := (-1 : Int32)) hx hb dX7_as_13 (by decide) ?_
    exact r_iret X hH hf dX7_as_14
theorem c_X7_as {l : Launch} {E : Ev} (N : Nat) (S : St) (x1 : Int32) (x2 : Int32) {r : Int32} {S1 : St} (hf : f_X7_as N S x1 x2 = some (r, S1)) : Ct l yX7_as (.code yX7_as cX7_as 3 (some .int)) 2 E [.ref (bb E 32), .int x1, .int x2] S (QI E r S1) := by
  refine Ct.of (by decide) (Nat.le_of_ble_eq_true rfl) (fun p e s m below meth c ls X hH hl => ?_)
  exact w_X7_as_0 X N S x1 x2 hf _ _ hH _ hl
set_option maxRecDepth 100000 in
set_option maxHeartbeats 4000000 in
theorem w_X7_back_0 {p : Program} {l : Launch} {e : Env} {s : State} {m : MethodId} {args : Array Value} {below : List Frame} {meth : Method} {c : Code} {E : Ev} {r : Int32} {S1 : St} (X : GX p s m meth c args cX7_back 2 (some .int) RX7 E) (N : Nat) : ∀ (S : St) (x1 : Int32), f_X7_back N S x1 = some (r, S1) → ∀ (H : Heap) (locs : List Loc), HH E S s H locs → ∀ ls : Array Slot, lv_has ls 2 [(0, .ref (bb E 32)), (1, .int x1)] → W p l e (rmL 2) s m args below meth c H locs 0 0 (MQ below (QI E r S1 s.heap.size) args s 0 0 (AA E s.heap.size)) (F0 m 0 ls []) := by
  have hx := X.1
  have hb := X.2.1
  intro S x1 hf H locs hH ls hl
  rw [f_X7_back] at hf
  refine lv_iload_n hx hb dX7_back_0 rfl (lv_at hl 1 rfl) ?_
  refine lv_iconst (v := (nI 0)) hx hb dX7_back_1 (by decide) ?_
  refine lv_aload_n hx hb dX7_back_2 rfl (lv_at hl 0 rfl) ?_
  refine fg_X7_117 X hH dX7_back_3 ?_
  obtain ⟨r3, S1, h2, hf⟩ := cal_g hf
  refine go_i hH (run_S X hH (rest := []) (c_X7_within N S x1 (nI 0) (S 32 32) h2) gm_X7_80 rfl hl.1 (rmL_ok (by decide) (by decide)) (Nat.le_of_ble_eq_true rfl) rfl dX7_back_6) (fun H locs hH => ?_)
  clear h2
  refine lv_if_ne (tgt := 15) hx hb dX7_back_9 (by decide) (fun c0 => ?_) (fun c0 => ?_)
  · replace hf := ite_f c0 hf
    refine lv_aload_n hx hb dX7_back_15 rfl (lv_at hl 0 rfl) ?_
    refine lv_dup hx hb dX7_back_16 rfl ?_
    refine fg_X7_117 X hH dX7_back_17 ?_
    refine lv_iload_n hx hb dX7_back_20 rfl (lv_at hl 1 rfl) ?_
    refine lv_isub hx hb dX7_back_21 ?_
    refine fp_X7_117 X hH dX7_back_22 (fun H locs hH => ?_)
    obtain ⟨S4, ex, hf⟩ := bnd_go hf
    replace hH := HH_eq ex hH
    clear ex
    refine lv_aload_n hx hb dX7_back_25 rfl (lv_at hl 0 rfl) ?_
    refine fg_X7_117 X hH dX7_back_26 ?_
    exact r_iret X hH hf dX7_back_29
  · replace hf := ite_t c0 hf
    refine lv_bipush (v := (-2 : Int32)) hx hb dX7_back_12 (by decide) ?_
    exact r_iret X hH hf dX7_back_14
theorem c_X7_back {l : Launch} {E : Ev} (N : Nat) (S : St) (x1 : Int32) {r : Int32} {S1 : St} (hf : f_X7_back N S x1 = some (r, S1)) : Ct l yX7_back (.code yX7_back cX7_back 2 (some .int)) 2 E [.ref (bb E 32), .int x1] S (QI E r S1) := by
  refine Ct.of (by decide) (Nat.le_of_ble_eq_true rfl) (fun p e s m below meth c ls X hH hl => ?_)
  exact w_X7_back_0 X N S x1 hf _ _ hH _ hl
set_option maxRecDepth 100000 in
set_option maxHeartbeats 4000000 in
theorem w_X7_begins_0 {p : Program} {l : Launch} {e : Env} {s : State} {m : MethodId} {args : Array Value} {below : List Frame} {meth : Method} {c : Code} {E : Ev} {r : Unit} {S1 : St} (X : GX p s m meth c args cX7_begins 2 none RX7 E) (N : Nat) : ∀ (S : St) (x1 : Int32), f_X7_begins N S x1 = some (r, S1) → ∀ (H : Heap) (locs : List Loc), HH E S s H locs → ∀ ls : Array Slot, lv_has ls 2 [(0, .ref (bb E 32)), (1, .int x1)] → W p l e (rmL 1) s m args below meth c H locs 0 0 (MQ below (QV E r S1 s.heap.size) args s 0 0 (AA E s.heap.size)) (F0 m 0 ls []) := by
  have hx := X.1
  have hb := X.2.1
  intro S x1 hf H locs hH ls hl
  rw [f_X7_begins] at hf
  refine lv_aload_n hx hb dX7_begins_0 rfl (lv_at hl 0 rfl) ?_
  refine lv_bipush (v := (nI 31)) hx hb dX7_begins_1 (by decide) ?_
  refine lv_aload_n hx hb dX7_begins_3 rfl (lv_at hl 0 rfl) ?_
  refine fg_X7_218 X hH dX7_begins_4 ?_
  refine lv_imul hx hb dX7_begins_7 ?_
  refine lv_iload_n hx hb dX7_begins_8 rfl (lv_at hl 1 rfl) ?_
  refine lv_iadd hx hb dX7_begins_9 ?_
  refine fp_X7_218 X hH dX7_begins_10 (fun H locs hH => ?_)
  obtain ⟨S1, ex, hf⟩ := bnd_go hf
  replace hH := HH_eq ex hH
  clear ex
  exact r_vret X hH hf dX7_begins_13
theorem c_X7_begins {l : Launch} {E : Ev} (N : Nat) (S : St) (x1 : Int32) {r : Unit} {S1 : St} (hf : f_X7_begins N S x1 = some (r, S1)) : Ct l yX7_begins (.code yX7_begins cX7_begins 2 none) 1 E [.ref (bb E 32), .int x1] S (QV E r S1) := by
  refine Ct.of (by decide) (Nat.le_of_ble_eq_true rfl) (fun p e s m below meth c ls X hH hl => ?_)
  exact w_X7_begins_0 X N S x1 hf _ _ hH _ hl
set_option maxRecDepth 100000 in
set_option maxHeartbeats 4000000 in
theorem w_X7_isSheet_0 {p : Program} {l : Launch} {e : Env} {s : State} {m : MethodId} {args : Array Value} {below : List Frame} {meth : Method} {c : Code} {E : Ev} {r : Int32} {S1 : St} (X : GX p s m meth c args cX7_isSheet 1 (some .boolean) RX7 E) (N : Nat) : ∀ (S : St) (x0 : Int32), f_X7_isSheet N S x0 = some (r, S1) → ∀ (H : Heap) (locs : List Loc), HH E S s H locs → ∀ ls : Array Slot, lv_has ls 1 [(0, .int x0)] → W p l e (rmL 2) s m args below meth c H locs 0 0 (MQ below (QI E r S1 s.heap.size) args s 0 0 (AA E s.heap.size)) (F0 m 0 ls []) := by
  have hx := X.1
  have hb := X.2.1
  intro S x0 hf H locs hH ls hl
  rw [f_X7_isSheet] at hf
  refine lv_iload_n hx hb dX7_isSheet_0 rfl (lv_at hl 0 rfl) ?_
  refine lv_iconst (v := (nI 0)) hx hb dX7_isSheet_1 (by decide) ?_
  refine lv_iconst (v := (nI 3)) hx hb dX7_isSheet_2 (by decide) ?_
  obtain ⟨r3, S1, h2, hf⟩ := cal_g hf
  refine go_i hH (run_S X hH (rest := []) (c_X7_within N S x0 (nI 0) (nI 3) h2) gm_X7_80 rfl hl.1 (rmL_ok (by decide) (by decide)) (Nat.le_of_ble_eq_true rfl) rfl dX7_isSheet_3) (fun H locs hH => ?_)
  clear h2
  obtain ⟨g, hf⟩ := ite_g hf
  exact r_zret X hH (nb_n g) hf dX7_isSheet_6
theorem c_X7_isSheet {l : Launch} {E : Ev} (N : Nat) (S : St) (x0 : Int32) {r : Int32} {S1 : St} (hf : f_X7_isSheet N S x0 = some (r, S1)) : Ct l yX7_isSheet (.code yX7_isSheet cX7_isSheet 1 (some .boolean)) 2 E [.int x0] S (QI E r S1) := by
  refine Ct.of (by decide) (Nat.le_of_ble_eq_true rfl) (fun p e s m below meth c ls X hH hl => ?_)
  exact w_X7_isSheet_0 X N S x0 hf _ _ hH _ hl
set_option maxRecDepth 100000 in
set_option maxHeartbeats 4000000 in
theorem w_X7_isSort_0 {p : Program} {l : Launch} {e : Env} {s : State} {m : MethodId} {args : Array Value} {below : List Frame} {meth : Method} {c : Code} {E : Ev} {r : Int32} {S1 : St} (X : GX p s m meth c args cX7_isSort 1 (some .boolean) RX7 E) (N : Nat) : ∀ (S : St) (x0 : Int32), f_X7_isSort N S x0 = some (r, S1) → ∀ (H : Heap) (locs : List Loc), HH E S s H locs → ∀ ls : Array Slot, lv_has ls 1 [(0, .int x0)] → W p l e (rmL 2) s m args below meth c H locs 0 0 (MQ below (QI E r S1 s.heap.size) args s 0 0 (AA E s.heap.size)) (F0 m 0 ls []) := by
  have hx := X.1
  have hb := X.2.1
  intro S x0 hf H locs hH ls hl
  rw [f_X7_isSort] at hf
  refine lv_iload_n hx hb dX7_isSort_0 rfl (lv_at hl 0 rfl) ?_
  refine lv_iconst (v := (nI 0)) hx hb dX7_isSort_1 (by decide) ?_
  refine lv_iconst (v := (nI 2)) hx hb dX7_isSort_2 (by decide) ?_
  obtain ⟨r3, S1, h2, hf⟩ := cal_g hf
  refine go_i hH (run_S X hH (rest := []) (c_X7_within N S x0 (nI 0) (nI 2) h2) gm_X7_80 rfl hl.1 (rmL_ok (by decide) (by decide)) (Nat.le_of_ble_eq_true rfl) rfl dX7_isSort_3) (fun H locs hH => ?_)
  clear h2
  obtain ⟨g, hf⟩ := ite_g hf
  exact r_zret X hH (nb_n g) hf dX7_isSort_6
theorem c_X7_isSort {l : Launch} {E : Ev} (N : Nat) (S : St) (x0 : Int32) {r : Int32} {S1 : St} (hf : f_X7_isSort N S x0 = some (r, S1)) : Ct l yX7_isSort (.code yX7_isSort cX7_isSort 1 (some .boolean)) 2 E [.int x0] S (QI E r S1) := by
  refine Ct.of (by decide) (Nat.le_of_ble_eq_true rfl) (fun p e s m below meth c ls X hH hl => ?_)
  exact w_X7_isSort_0 X N S x0 hf _ _ hH _ hl
set_option maxRecDepth 100000 in
set_option maxHeartbeats 4000000 in
theorem w_X7_lost_0 {p : Program} {l : Launch} {e : Env} {s : State} {m : MethodId} {args : Array Value} {below : List Frame} {meth : Method} {c : Code} {E : Ev} {r : Int64} {S1 : St} (X : GX p s m meth c args cX7_lost 2 (some .long) RX7 E) (N : Nat) : ∀ (S : St) (x1 : Int32), f_X7_lost N S x1 = some (r, S1) → ∀ (H : Heap) (locs : List Loc), HH E S s H locs → ∀ ls : Array Slot, lv_has ls 2 [(0, .ref (bb E 32)), (1, .int x1)] → W p l e (rmL 1) s m args below meth c H locs 0 0 (MQ below (QL E r S1 s.heap.size) args s 0 0 (AA E s.heap.size)) (F0 m 0 ls []) := by
  have hx := X.1
  have hb := X.2.1
  intro S x1 hf H locs hH ls hl
  rw [f_X7_lost] at hf
  refine lv_aload_n hx hb dX7_lost_0 rfl (lv_at hl 0 rfl) ?_
  refine lv_iload_n hx hb dX7_lost_1 rfl (lv_at hl 1 rfl) ?_
  refine fp_X7_74 X hH dX7_lost_2 (fun H locs hH => ?_)
  obtain ⟨S1, ex, hf⟩ := bnd_go hf
  replace hH := HH_eq ex hH
  clear ex
  refine lv_ldc2 (v := (-9223372036854775808 : Int64)) hx hb X.2.2.2.1 (X.2.2.2.2.1 _ q_26_17) dX7_lost_5 ?_
  exact r_lret X hH hf dX7_lost_8
theorem c_X7_lost {l : Launch} {E : Ev} (N : Nat) (S : St) (x1 : Int32) {r : Int64} {S1 : St} (hf : f_X7_lost N S x1 = some (r, S1)) : Ct l yX7_lost (.code yX7_lost cX7_lost 2 (some .long)) 1 E [.ref (bb E 32), .int x1] S (QL E r S1) := by
  refine Ct.of (by decide) (Nat.le_of_ble_eq_true rfl) (fun p e s m below meth c ls X hH hl => ?_)
  exact w_X7_lost_0 X N S x1 hf _ _ hH _ hl
set_option maxRecDepth 100000 in
set_option maxHeartbeats 4000000 in
theorem w_X7_cell_50 {p : Program} {l : Launch} {e : Env} {s : State} {m : MethodId} {args : Array Value} {below : List Frame} {meth : Method} {c : Code} {E : Ev} {r : Int64} {S1 : St} (X : GX p s m meth c args cX7_cell 4 (some .long) RX7 E) (N : Nat) : ∀ (S : St) (x1 : Int32) (x2 : Int32), f_X7_cell_50 N S x1 x2 = some (r, S1) → ∀ (H : Heap) (locs : List Loc), HH E S s H locs → ∀ ls : Array Slot, lv_has ls 4 [(0, .ref (bb E 32)), (1, .int x1), (2, .int x2)] → W p l e (rmL 3) s m args below meth c H locs 0 0 (MQ below (QL E r S1 s.heap.size) args s 0 0 (AA E s.heap.size)) (F0 m 50 ls []) := by
  have hx := X.1
  have hb := X.2.1
  intro S x1 x2 hf H locs hH ls hl
  rw [f_X7_cell_50] at hf
  refine lv_aload_n hx hb dX7_cell_50 rfl (lv_at hl 0 rfl) ?_
  refine fg_X7_9 X hH dX7_cell_51 ?_
  refine lv_iload_n hx hb dX7_cell_54 rfl (lv_at hl 1 rfl) ?_
  obtain ⟨g, hf⟩ := ite_g hf
  refine r_iald X hH (a_33 E) g dX7_cell_55 ?_
  refine lv_bipush (v := (-9 : Int32)) hx hb dX7_cell_56 (by decide) ?_
  refine lv_icmp_ne (tgt := 67) hx hb dX7_cell_58 (by decide) (fun c0 => ?_) (fun c0 => ?_)
  · replace hf := ite_f c0 hf
    refine lv_iload_n hx hb dX7_cell_67 rfl (lv_at hl 2 rfl) ?_
    refine lv_iconst (v := (nI 0)) hx hb dX7_cell_68 (by decide) ?_
    refine lv_aload_n hx hb dX7_cell_69 rfl (lv_at hl 0 rfl) ?_
    refine fg_X7_13 X hH dX7_cell_70 ?_
    refine lv_iload_n hx hb dX7_cell_73 rfl (lv_at hl 1 rfl) ?_
    obtain ⟨g, hf⟩ := ite_g hf
    refine r_iald X hH (a_34 E) g dX7_cell_74 ?_
    refine lv_iconst (v := (nI 1)) hx hb dX7_cell_75 (by decide) ?_
    refine lv_isub hx hb dX7_cell_76 ?_
    obtain ⟨r3, S1, h2, hf⟩ := cal_g hf
    refine go_i hH (run_S X hH (rest := []) (c_X7_within N S x2 (nI 0) ((S 34 x1.toNatClampNeg) - (nI 1)) h2) gm_X7_80 rfl hl.1 (rmL_ok (by decide) (by decide)) (Nat.le_of_ble_eq_true rfl) rfl dX7_cell_77) (fun H locs hH => ?_)
    clear h2
    refine lv_if_ne (tgt := 89) hx hb dX7_cell_80 (by decide) (fun c0 => ?_) (fun c0 => ?_)
    · replace hf := ite_f c0 hf
      refine lv_aload_n hx hb dX7_cell_89 rfl (lv_at hl 0 rfl) ?_
      refine fg_X7_16 X hH dX7_cell_90 ?_
      refine lv_bipush (v := (nI 60)) hx hb dX7_cell_93 (by decide) ?_
      refine lv_iload_n hx hb dX7_cell_95 rfl (lv_at hl 1 rfl) ?_
      refine lv_imul hx hb dX7_cell_96 ?_
      refine lv_iload_n hx hb dX7_cell_97 rfl (lv_at hl 2 rfl) ?_
      refine lv_iadd hx hb dX7_cell_98 ?_
      obtain ⟨g, hf⟩ := ite_g hf
      refine r_iald X hH (a_35 E) g dX7_cell_99 ?_
      refine lv_i2l hx hb dX7_cell_100 rfl ?_
      exact r_lret X hH hf dX7_cell_101
    · replace hf := ite_t c0 hf
      refine lv_aload_n hx hb dX7_cell_83 rfl (lv_at hl 0 rfl) ?_
      refine lv_iconst (v := (nI 3)) hx hb dX7_cell_84 (by decide) ?_
      obtain ⟨r6, S4, h5, hf⟩ := cal_g hf
      refine go_l hH (run_V X hH (rest := []) (c_X7_lost N S1 (nI 3) h5) gm_X7_214 (by decide) (e_32 E _) rfl rfl hl.1 (rmL_ok (by decide) (by decide)) (Nat.le_of_ble_eq_true rfl) rfl dX7_cell_85) (fun H locs hH => ?_)
      clear h5
      exact r_lret X hH hf dX7_cell_88
  · replace hf := ite_t c0 hf
    refine lv_aload_n hx hb dX7_cell_61 rfl (lv_at hl 0 rfl) ?_
    refine lv_iconst (v := (nI 1)) hx hb dX7_cell_62 (by decide) ?_
    obtain ⟨r9, S7, h8, hf⟩ := cal_g hf
    refine go_l hH (run_V X hH (rest := []) (c_X7_lost N S (nI 1) h8) gm_X7_214 (by decide) (e_32 E _) rfl rfl hl.1 (rmL_ok (by decide) (by decide)) (Nat.le_of_ble_eq_true rfl) rfl dX7_cell_63) (fun H locs hH => ?_)
    clear h8
    exact r_lret X hH hf dX7_cell_66
set_option maxRecDepth 100000 in
set_option maxHeartbeats 4000000 in
theorem w_X7_cell_0 {p : Program} {l : Launch} {e : Env} {s : State} {m : MethodId} {args : Array Value} {below : List Frame} {meth : Method} {c : Code} {E : Ev} {r : Int64} {S1 : St} (X : GX p s m meth c args cX7_cell 4 (some .long) RX7 E) (N : Nat) : ∀ (S : St) (x1 : Int32) (x2 : Int32) (x3 : Int32), f_X7_cell N S x1 x2 x3 = some (r, S1) → ∀ (H : Heap) (locs : List Loc), HH E S s H locs → ∀ ls : Array Slot, lv_has ls 4 [(0, .ref (bb E 32)), (1, .int x1), (2, .int x2), (3, .int x3)] → W p l e (rmL 3) s m args below meth c H locs 0 0 (MQ below (QL E r S1 s.heap.size) args s 0 0 (AA E s.heap.size)) (F0 m 0 ls []) := by
  have hx := X.1
  have hb := X.2.1
  intro S x1 x2 x3 hf H locs hH ls hl
  rw [f_X7_cell] at hf
  refine lv_aload_n hx hb dX7_cell_0 rfl (lv_at hl 0 rfl) ?_
  refine lv_iconst (v := (nI 0)) hx hb dX7_cell_1 (by decide) ?_
  refine fp_X7_74 X hH dX7_cell_2 (fun H locs hH => ?_)
  obtain ⟨S1, ex, hf⟩ := bnd_go hf
  replace hH := HH_eq ex hH
  clear ex
  refine lv_iload_n hx hb dX7_cell_5 rfl (lv_at hl 1 rfl) ?_
  obtain ⟨r4, S2, h3, hf⟩ := cal_g hf
  refine go_i hH (run_S X hH (rest := []) (c_X7_isSheet N S1 x1 h3) gm_X7_87 rfl hl.1 (rmL_ok (by decide) (by decide)) (Nat.le_of_ble_eq_true rfl) rfl dX7_cell_6) (fun H locs hH => ?_)
  clear h3
  refine lv_if_eq (tgt := 19) hx hb dX7_cell_9 (by decide) (fun c0 => ?_) (fun c0 => ?_)
  · replace hf := ite_t c0 hf
    refine lv_ldc2 (v := (-9223372036854775808 : Int64)) hx hb X.2.2.2.1 (X.2.2.2.2.1 _ q_26_17) dX7_cell_19 ?_
    exact r_lret X hH hf dX7_cell_22
  · replace hf := ite_f c0 hf
    refine lv_iload_n hx hb dX7_cell_12 rfl (lv_at hl 3 rfl) ?_
    obtain ⟨r7, S5, h6, hf⟩ := cal_g hf
    refine go_i hH (run_S X hH (rest := []) (c_X7_isSort N S2 x3 h6) gm_X7_91 rfl hl.1 (rmL_ok (by decide) (by decide)) (Nat.le_of_ble_eq_true rfl) rfl dX7_cell_13) (fun H locs hH => ?_)
    clear h6
    refine lv_if_ne (tgt := 23) hx hb dX7_cell_16 (by decide) (fun c0 => ?_) (fun c0 => ?_)
    · replace hf := ite_f c0 hf
      refine lv_aload_n hx hb dX7_cell_23 rfl (lv_at hl 0 rfl) ?_
      refine fg_X7_9 X hH dX7_cell_24 ?_
      refine lv_iload_n hx hb dX7_cell_27 rfl (lv_at hl 1 rfl) ?_
      obtain ⟨g, hf⟩ := ite_g hf
      refine r_iald X hH (a_33 E) g dX7_cell_28 ?_
      refine lv_bipush (v := (-9 : Int32)) hx hb dX7_cell_29 (by decide) ?_
      refine lv_icmp_eq (tgt := 50) hx hb dX7_cell_31 (by decide) (fun c0 => ?_) (fun c0 => ?_)
      · replace hf := ite_t c0 hf
        exact w_X7_cell_50 X N S5 x1 x2 hf _ _ hH _ (lv_sub hl [0, 1, 2] rfl)
      · replace hf := ite_f c0 hf
        refine lv_aload_n hx hb dX7_cell_34 rfl (lv_at hl 0 rfl) ?_
        refine fg_X7_9 X hH dX7_cell_35 ?_
        refine lv_iload_n hx hb dX7_cell_38 rfl (lv_at hl 1 rfl) ?_
        obtain ⟨g, hf⟩ := ite_g hf
        refine r_iald X hH (a_33 E) g dX7_cell_39 ?_
        refine lv_iload_n hx hb dX7_cell_40 rfl (lv_at hl 3 rfl) ?_
        refine lv_icmp_eq (tgt := 50) hx hb dX7_cell_41 (by decide) (fun c0 => ?_) (fun c0 => ?_)
        · replace hf := ite_t c0 hf
          exact w_X7_cell_50 X N S5 x1 x2 hf _ _ hH _ (lv_sub hl [0, 1, 2] rfl)
        · replace hf := ite_f c0 hf
          refine lv_aload_n hx hb dX7_cell_44 rfl (lv_at hl 0 rfl) ?_
          refine lv_iconst (v := (nI 2)) hx hb dX7_cell_45 (by decide) ?_
          obtain ⟨r10, S8, h9, hf⟩ := cal_g hf
          refine go_l hH (run_V X hH (rest := []) (c_X7_lost N S5 (nI 2) h9) gm_X7_214 (by decide) (e_32 E _) rfl rfl hl.1 (rmL_ok (by decide) (by decide)) (Nat.le_of_ble_eq_true rfl) rfl dX7_cell_46) (fun H locs hH => ?_)
          clear h9
          exact r_lret X hH hf dX7_cell_49
    · replace hf := ite_t c0 hf
      refine lv_ldc2 (v := (-9223372036854775808 : Int64)) hx hb X.2.2.2.1 (X.2.2.2.2.1 _ q_26_17) dX7_cell_19 ?_
      exact r_lret X hH hf dX7_cell_22
theorem c_X7_cell {l : Launch} {E : Ev} (N : Nat) (S : St) (x1 : Int32) (x2 : Int32) (x3 : Int32) {r : Int64} {S1 : St} (hf : f_X7_cell N S x1 x2 x3 = some (r, S1)) : Ct l yX7_cell (.code yX7_cell cX7_cell 4 (some .long)) 3 E [.ref (bb E 32), .int x1, .int x2, .int x3] S (QL E r S1) := by
  refine Ct.of (by decide) (Nat.le_of_ble_eq_true rfl) (fun p e s m below meth c ls X hH hl => ?_)
  exact w_X7_cell_0 X N S x1 x2 x3 hf _ _ hH _ hl
set_option maxRecDepth 100000 in
set_option maxHeartbeats 4000000 in
theorem w_X7_clear_0 {p : Program} {l : Launch} {e : Env} {s : State} {m : MethodId} {args : Array Value} {below : List Frame} {meth : Method} {c : Code} {E : Ev} {r : Int32} {S1 : St} (X : GX p s m meth c args cX7_clear 1 (some .int) RX7 E) (N : Nat) : ∀ (S : St), f_X7_clear N S = some (r, S1) → ∀ (H : Heap) (locs : List Loc), HH E S s H locs → ∀ ls : Array Slot, lv_has ls 1 [(0, .ref (bb E 32))] → W p l e (rmL 3) s m args below meth c H locs 0 0 (MQ below (QI E r S1 s.heap.size) args s 0 0 (AA E s.heap.size)) (F0 m 0 ls []) := by
  have hx := X.1
  have hb := X.2.1
  intro S hf H locs hH ls hl
  rw [f_X7_clear] at hf
  refine lv_aload_n hx hb dX7_clear_0 rfl (lv_at hl 0 rfl) ?_
  refine lv_aload_n hx hb dX7_clear_1 rfl (lv_at hl 0 rfl) ?_
  refine fg_X7_111 X hH dX7_clear_2 ?_
  obtain ⟨_, S1, h2, hf⟩ := cal_g hf
  refine go_v hH (run_V X hH (rest := []) (c_X7_workOn N S (S 32 7) h2) gm_X7_165 (by decide) (e_32 E _) rfl rfl hl.1 (rmL_ok (by decide) (by decide)) (Nat.le_of_ble_eq_true rfl) rfl dX7_clear_5) (fun H locs hH => ?_)
  clear h2
  refine lv_aload_n hx hb dX7_clear_8 rfl (lv_at hl 0 rfl) ?_
  refine lv_iconst (v := (nI 0)) hx hb dX7_clear_9 (by decide) ?_
  refine fp_X7_111 X hH dX7_clear_10 (fun H locs hH => ?_)
  obtain ⟨S4, ex, hf⟩ := bnd_go hf
  replace hH := HH_eq ex hH
  clear ex
  refine lv_aload_n hx hb dX7_clear_13 rfl (lv_at hl 0 rfl) ?_
  refine fg_X7_140 X hH dX7_clear_14 ?_
  exact r_iret X hH hf dX7_clear_17
theorem c_X7_clear {l : Launch} {E : Ev} (N : Nat) (S : St) {r : Int32} {S1 : St} (hf : f_X7_clear N S = some (r, S1)) : Ct l yX7_clear (.code yX7_clear cX7_clear 1 (some .int)) 3 E [.ref (bb E 32)] S (QI E r S1) := by
  refine Ct.of (by decide) (Nat.le_of_ble_eq_true rfl) (fun p e s m below meth c ls X hH hl => ?_)
  exact w_X7_clear_0 X N S hf _ _ hH _ hl
set_option maxRecDepth 100000 in
set_option maxHeartbeats 4000000 in
theorem w_X7_click_26 {p : Program} {l : Launch} {e : Env} {s : State} {m : MethodId} {args : Array Value} {below : List Frame} {meth : Method} {c : Code} {E : Ev} {r : Int32} {S1 : St} (X : GX p s m meth c args cX7_click 2 (some .int) RX7 E) (N : Nat) : ∀ (S : St) (x1 : Int32) (xs0 : Int32), f_X7_click_26 N S x1 xs0 = some (r, S1) → ∀ (H : Heap) (locs : List Loc), HH E S s H locs → ∀ ls : Array Slot, lv_has ls 2 [(0, .ref (bb E 32)), (1, .int x1)] → W p l e (rmL 2) s m args below meth c H locs 0 0 (MQ below (QI E r S1 s.heap.size) args s 0 0 (AA E s.heap.size)) (F0 m 26 ls [.int xs0, .ref (bb E 32)]) := by
  have hx := X.1
  have hb := X.2.1
  intro S x1 xs0 hf H locs hH ls hl
  rw [f_X7_click_26] at hf
  obtain ⟨_, S1, h2, hf⟩ := cal_g hf
  refine go_v hH (run_V X hH (rest := []) (c_X7_begins N S xs0 h2) gm_X7_221 (by decide) (e_32 E _) rfl rfl hl.1 (rmL_ok (by decide) (by decide)) (Nat.le_of_ble_eq_true rfl) rfl dX7_click_26) (fun H locs hH => ?_)
  clear h2
  refine lv_aload_n hx hb dX7_click_29 rfl (lv_at hl 0 rfl) ?_
  refine fg_X7_19 X hH dX7_click_30 ?_
  refine lv_iload_n hx hb dX7_click_33 rfl (lv_at hl 1 rfl) ?_
  obtain ⟨g, hf⟩ := ite_g hf
  refine r_iald X hH (a_36 E) g dX7_click_34 ?_
  refine lv_iconst (v := (nI 2)) hx hb dX7_click_35 (by decide) ?_
  refine lv_icmp_ne (tgt := 44) hx hb dX7_click_36 (by decide) (fun c0 => ?_) (fun c0 => ?_)
  · replace hf := ite_f c0 hf
    refine lv_aload_n hx hb dX7_click_44 rfl (lv_at hl 0 rfl) ?_
    refine fg_X7_25 X hH dX7_click_45 ?_
    refine lv_iload_n hx hb dX7_click_48 rfl (lv_at hl 1 rfl) ?_
    obtain ⟨g, hf⟩ := ite_g hf
    refine r_iald X hH (a_38 E) g dX7_click_49 ?_
    exact r_iret X hH hf dX7_click_50
  · replace hf := ite_t c0 hf
    refine lv_bipush (v := (nI 90)) hx hb dX7_click_39 (by decide) ?_
    refine lv_goto (tgt := 50) hx hb dX7_click_41 (by decide) ?_
    exact r_iret X hH hf dX7_click_50
set_option maxRecDepth 100000 in
set_option maxHeartbeats 4000000 in
theorem w_X7_click_0 {p : Program} {l : Launch} {e : Env} {s : State} {m : MethodId} {args : Array Value} {below : List Frame} {meth : Method} {c : Code} {E : Ev} {r : Int32} {S1 : St} (X : GX p s m meth c args cX7_click 2 (some .int) RX7 E) (N : Nat) : ∀ (S : St) (x1 : Int32), f_X7_click N S x1 = some (r, S1) → ∀ (H : Heap) (locs : List Loc), HH E S s H locs → ∀ ls : Array Slot, lv_has ls 2 [(0, .ref (bb E 32)), (1, .int x1)] → W p l e (rmL 2) s m args below meth c H locs 0 0 (MQ below (QI E r S1 s.heap.size) args s 0 0 (AA E s.heap.size)) (F0 m 0 ls []) := by
  have hx := X.1
  have hb := X.2.1
  intro S x1 hf H locs hH ls hl
  rw [f_X7_click] at hf
  refine lv_aload_n hx hb dX7_click_0 rfl (lv_at hl 0 rfl) ?_
  refine lv_iload_n hx hb dX7_click_1 rfl (lv_at hl 1 rfl) ?_
  obtain ⟨r3, S1, h2, hf⟩ := cal_g hf
  refine go_i hH (run_V X hH (rest := []) (c_X7_isMacro N S x1 h2) gm_X7_134 (by decide) (e_32 E _) rfl rfl hl.1 (rmL_ok (by decide) (by decide)) (Nat.le_of_ble_eq_true rfl) rfl dX7_click_2) (fun H locs hH => ?_)
  clear h2
  refine lv_if_ne (tgt := 10) hx hb dX7_click_5 (by decide) (fun c0 => ?_) (fun c0 => ?_)
  · replace hf := ite_f c0 hf
    refine lv_aload_n hx hb dX7_click_10 rfl (lv_at hl 0 rfl) ?_
    refine lv_aload_n hx hb dX7_click_11 rfl (lv_at hl 0 rfl) ?_
    refine fg_X7_19 X hH dX7_click_12 ?_
    refine lv_iload_n hx hb dX7_click_15 rfl (lv_at hl 1 rfl) ?_
    obtain ⟨g, hf⟩ := ite_g hf
    refine r_iald X hH (a_36 E) g dX7_click_16 ?_
    refine lv_iconst (v := (nI 2)) hx hb dX7_click_17 (by decide) ?_
    refine lv_icmp_ne (tgt := 25) hx hb dX7_click_18 (by decide) (fun c0 => ?_) (fun c0 => ?_)
    · replace hf := ite_f c0 hf
      refine lv_iconst (v := (nI 4)) hx hb dX7_click_25 (by decide) ?_
      exact w_X7_click_26 X N S1 x1 (nI 4) hf _ _ hH _ (lv_sub hl [0, 1] rfl)
    · replace hf := ite_t c0 hf
      refine lv_iconst (v := (nI 5)) hx hb dX7_click_21 (by decide) ?_
      refine lv_goto (tgt := 26) hx hb dX7_click_22 (by decide) ?_
      exact w_X7_click_26 X N S1 x1 (nI 5) hf _ _ hH _ (lv_sub hl [0, 1] rfl)
  · replace hf := ite_t c0 hf
    refine lv_iconst (v := (-1 : Int32)) hx hb dX7_click_8 (by decide) ?_
    exact r_iret X hH hf dX7_click_9
theorem c_X7_click {l : Launch} {E : Ev} (N : Nat) (S : St) (x1 : Int32) {r : Int32} {S1 : St} (hf : f_X7_click N S x1 = some (r, S1)) : Ct l yX7_click (.code yX7_click cX7_click 2 (some .int)) 2 E [.ref (bb E 32), .int x1] S (QI E r S1) := by
  refine Ct.of (by decide) (Nat.le_of_ble_eq_true rfl) (fun p e s m below meth c ls X hH hl => ?_)
  exact w_X7_click_0 X N S x1 hf _ _ hH _ hl
set_option maxRecDepth 100000 in
set_option maxHeartbeats 4000000 in
theorem w_X7_keysThere_0 {p : Program} {l : Launch} {e : Env} {s : State} {m : MethodId} {args : Array Value} {below : List Frame} {meth : Method} {c : Code} {E : Ev} {r : Int32} {S1 : St} (X : GX p s m meth c args cX7_keysThere 1 (some .int) RX7 E) (N : Nat) : ∀ (S : St), f_X7_keysThere N S = some (r, S1) → ∀ (H : Heap) (locs : List Loc), HH E S s H locs → ∀ ls : Array Slot, lv_has ls 1 [(0, .ref (bb E 32))] → W p l e (rmL 1) s m args below meth c H locs 0 0 (MQ below (QI E r S1 s.heap.size) args s 0 0 (AA E s.heap.size)) (F0 m 0 ls []) := by
  have hx := X.1
  have hb := X.2.1
  intro S hf H locs hH ls hl
  rw [f_X7_keysThere] at hf
  refine lv_bipush (v := (nI 8)) hx hb dX7_keysThere_0 (by decide) ?_
  refine lv_aload_n hx hb dX7_keysThere_2 rfl (lv_at hl 0 rfl) ?_
  refine fg_X7_84 X hH dX7_keysThere_3 ?_
  refine lv_iadd hx hb dX7_keysThere_6 ?_
  exact r_iret X hH hf dX7_keysThere_7
theorem c_X7_keysThere {l : Launch} {E : Ev} (N : Nat) (S : St) {r : Int32} {S1 : St} (hf : f_X7_keysThere N S = some (r, S1)) : Ct l yX7_keysThere (.code yX7_keysThere cX7_keysThere 1 (some .int)) 1 E [.ref (bb E 32)] S (QI E r S1) := by
  refine Ct.of (by decide) (Nat.le_of_ble_eq_true rfl) (fun p e s m below meth c ls X hH hl => ?_)
  exact w_X7_keysThere_0 X N S hf _ _ hH _ hl
set_option maxRecDepth 100000 in
set_option maxHeartbeats 4000000 in
theorem w_X7_come_58 {p : Program} {l : Launch} {e : Env} {s : State} {m : MethodId} {args : Array Value} {below : List Frame} {meth : Method} {c : Code} {E : Ev} {r : Int32} {S1 : St} (X : GX p s m meth c args cX7_come 5 (some .int) RX7 E) (N : Nat) (k50 : St → Int32 → Int32 → Option (Int32 × St)) (hk50 : ∀ (S : St) (x1 : Int32) (x2 : Int32), k50 S x1 x2 = some (r, S1) → ∀ (H : Heap) (locs : List Loc), HH E S s H locs → ∀ ls : Array Slot, lv_has ls 5 [(0, .ref (bb E 32)), (1, .int x1), (2, .int x2)] → W p l e (rmL 5) s m args below meth c H locs 0 0 (MQ below (QI E r S1 s.heap.size) args s 0 0 (AA E s.heap.size)) (F0 m 50 ls [])) : ∀ (n : Nat) (S : St) (x1 : Int32) (x2 : Int32) (x3 : Int32), f_X7_come_58 N k50 n S x1 x2 x3 = some (r, S1) → ∀ (H : Heap) (locs : List Loc), HH E S s H locs → ∀ ls : Array Slot, lv_has ls 5 [(0, .ref (bb E 32)), (1, .int x1), (2, .int x2), (3, .int x3)] → W p l e (rmL 5) s m args below meth c H locs 0 0 (MQ below (QI E r S1 s.heap.size) args s 0 0 (AA E s.heap.size)) (F0 m 58 ls []) := by
  have hx := X.1
  have hb := X.2.1
  intro n
  induction n with
  | zero =>
    intro S x1 x2 x3 hf
    cases hf
  | succ n ih =>
    intro S x1 x2 x3 hf H locs hH ls hl
    rw [f_X7_come_58] at hf
    refine lv_iload_n hx hb dX7_come_58 rfl (lv_at hl 3 rfl) ?_
    refine lv_aload_n hx hb dX7_come_59 rfl (lv_at hl 0 rfl) ?_
    obtain ⟨r3, S1, h2, hf⟩ := cal_g hf
    refine go_i hH (run_V X hH (rest := [.int x3]) (c_X7_keysThere N S h2) gm_X7_186 (by decide) (e_32 E _) rfl rfl hl.1 (rmL_ok (by decide) (by decide)) (Nat.le_of_ble_eq_true rfl) rfl dX7_come_60) (fun H locs hH => ?_)
    clear h2
    refine lv_icmp_ge (tgt := 120) hx hb dX7_come_63 (by decide) (fun c0 => ?_) (fun c0 => ?_)
    · replace hf := ite_t c0 hf
      obtain ⟨y4, ex, hf⟩ := bnd_go hf
      refine lv_iinc (v := y4) (lv' := [(2, .int y4), (0, .ref (bb E 32)), (1, .int x1), (3, .int x3)]) hx hb dX7_come_120 hl (k := 2) rfl (by rw [ex]; rfl) (by decide) rfl (fun ls hl => ?_)
      clear ex
      refine lv_goto (tgt := 50) hx hb dX7_come_123 (by decide) ?_
      exact hk50 S1 x1 y4 hf _ _ hH _ (lv_sub hl [1, 2, 0] rfl)
    · replace hf := ite_f c0 hf
      refine lv_aload_n hx hb dX7_come_66 rfl (lv_at hl 0 rfl) ?_
      refine fg_X7_59 X hH dX7_come_67 ?_
      refine lv_sipush (v := (nI 7737)) hx hb dX7_come_70 (by decide) ?_
      refine lv_iload_n hx hb dX7_come_73 rfl (lv_at hl 3 rfl) ?_
      refine lv_imul hx hb dX7_come_74 ?_
      refine lv_aload_n hx hb dX7_come_75 rfl (lv_at hl 0 rfl) ?_
      refine fg_X7_62 X hH dX7_come_76 ?_
      refine lv_iload_n hx hb dX7_come_79 rfl (lv_at hl 2 rfl) ?_
      obtain ⟨g, hf⟩ := ite_g hf
      refine r_iald X hH (a_50 E) g dX7_come_80 ?_
      refine lv_iadd hx hb dX7_come_81 ?_
      obtain ⟨g, hf⟩ := ite_g hf
      refine r_iald X hH (a_49 E) g dX7_come_82 ?_
      refine lv_topi (fun y5 ex => ?_)
      replace hf := bnd_at ex hf
      clear ex
      refine lv_istore (lv' := [(4, .int y5), (0, .ref (bb E 32)), (1, .int x1), (2, .int x2), (3, .int x3)]) hx hb dX7_come_83 hl (by decide) rfl (fun ls hl => ?_)
      refine lv_aload_n hx hb dX7_come_85 rfl (lv_at hl 1 rfl) ?_
      refine fg_X7_65 X hH dX7_come_86 ?_
      refine lv_iload hx hb dX7_come_89 (lv_at hl 0 rfl) ?_
      obtain ⟨g, hf⟩ := ite_g hf
      refine r_iald X hH (a_51 E) g dX7_come_91 ?_
      refine lv_if_ne (tgt := 114) hx hb dX7_come_92 (by decide) (fun c0 => ?_) (fun c0 => ?_)
      · replace hf := ite_f c0 hf
        obtain ⟨y6, ex, hf⟩ := bnd_go hf
        refine lv_iinc (v := y6) (lv' := [(3, .int y6), (4, .int y5), (0, .ref (bb E 32)), (1, .int x1), (2, .int x2)]) hx hb dX7_come_114 hl (k := 4) rfl (by rw [ex]; rfl) (by decide) rfl (fun ls hl => ?_)
        clear ex
        refine lv_goto (tgt := 58) hx hb dX7_come_117 (by decide) ?_
        exact ih S1 x1 x2 y6 hf _ _ hH _ (lv_sub hl [2, 3, 4, 0] rfl)
      · replace hf := ite_t c0 hf
        refine lv_aload_n hx hb dX7_come_95 rfl (lv_at hl 1 rfl) ?_
        refine fg_X7_65 X hH dX7_come_96 ?_
        refine lv_iload hx hb dX7_come_99 (lv_at hl 0 rfl) ?_
        refine lv_iconst (v := (nI 1)) hx hb dX7_come_101 (by decide) ?_
        obtain ⟨g, hf⟩ := ite_g hf
        refine r_iast X hH (a_51 E) g dX7_come_102 (fun H locs hH => ?_)
        obtain ⟨S7, ex, hf⟩ := bnd_go hf
        replace hH := HH_eq ex hH
        clear ex
        refine lv_aload_n hx hb dX7_come_103 rfl (lv_at hl 1 rfl) ?_
        refine fg_X7_62 X hH dX7_come_104 ?_
        refine lv_iload_n hx hb dX7_come_107 rfl (lv_at hl 2 rfl) ?_
        refine lv_iload hx hb dX7_come_108 (lv_at hl 0 rfl) ?_
        obtain ⟨g, hf⟩ := ite_g hf
        refine r_iast X hH (a_50 E) g dX7_come_110 (fun H locs hH => ?_)
        obtain ⟨S8, ex, hf⟩ := bnd_go hf
        replace hH := HH_eq ex hH
        clear ex
        obtain ⟨y9, ex, hf⟩ := bnd_go hf
        refine lv_iinc (v := y9) (lv' := [(1, .int y9), (4, .int y5), (0, .ref (bb E 32)), (2, .int x2), (3, .int x3)]) hx hb dX7_come_111 hl (k := 2) rfl (by rw [ex]; rfl) (by decide) rfl (fun ls hl => ?_)
        clear ex
        obtain ⟨y10, ex, hf⟩ := bnd_go hf
        refine lv_iinc (v := y10) (lv' := [(3, .int y10), (1, .int y9), (4, .int y5), (0, .ref (bb E 32)), (2, .int x2)]) hx hb dX7_come_114 hl (k := 4) rfl (by rw [ex]; rfl) (by decide) rfl (fun ls hl => ?_)
        clear ex
        refine lv_goto (tgt := 58) hx hb dX7_come_117 (by decide) ?_
        exact ih S8 y9 x2 y10 hf _ _ hH _ (lv_sub hl [3, 1, 4, 0] rfl)
set_option maxRecDepth 100000 in
set_option maxHeartbeats 4000000 in
theorem w_X7_come_50 {p : Program} {l : Launch} {e : Env} {s : State} {m : MethodId} {args : Array Value} {below : List Frame} {meth : Method} {c : Code} {E : Ev} {r : Int32} {S1 : St} (X : GX p s m meth c args cX7_come 5 (some .int) RX7 E) (N : Nat) : ∀ (n : Nat) (S : St) (x1 : Int32) (x2 : Int32), f_X7_come_50 N n S x1 x2 = some (r, S1) → ∀ (H : Heap) (locs : List Loc), HH E S s H locs → ∀ ls : Array Slot, lv_has ls 5 [(0, .ref (bb E 32)), (1, .int x1), (2, .int x2)] → W p l e (rmL 5) s m args below meth c H locs 0 0 (MQ below (QI E r S1 s.heap.size) args s 0 0 (AA E s.heap.size)) (F0 m 50 ls []) := by
  have hx := X.1
  have hb := X.2.1
  intro n
  induction n with
  | zero =>
    intro S x1 x2 hf
    cases hf
  | succ n ih =>
    intro S x1 x2 hf H locs hH ls hl
    rw [f_X7_come_50] at hf
    refine lv_iload_n hx hb dX7_come_50 rfl (lv_at hl 2 rfl) ?_
    refine lv_iload_n hx hb dX7_come_51 rfl (lv_at hl 1 rfl) ?_
    refine lv_icmp_ge (tgt := 126) hx hb dX7_come_52 (by decide) (fun c0 => ?_) (fun c0 => ?_)
    · replace hf := ite_t c0 hf
      refine lv_iload_n hx hb dX7_come_126 rfl (lv_at hl 1 rfl) ?_
      exact r_iret X hH hf dX7_come_127
    · replace hf := ite_f c0 hf
      refine lv_bipush (v := (nI 8)) hx hb dX7_come_55 (by decide) ?_
      refine lv_topi (fun y1 ex => ?_)
      replace hf := bnd_at ex hf
      clear ex
      refine lv_istore_n (lv' := [(3, .int y1), (0, .ref (bb E 32)), (1, .int x1), (2, .int x2)]) hx hb dX7_come_57 rfl hl (by decide) rfl (fun ls hl => ?_)
      exact w_X7_come_58 X N (f_X7_come_50 N n) ih N S x1 x2 y1 hf _ _ hH _ (lv_sub hl [1, 2, 3, 0] rfl)
set_option maxRecDepth 100000 in
set_option maxHeartbeats 4000000 in
theorem w_X7_come_6 {p : Program} {l : Launch} {e : Env} {s : State} {m : MethodId} {args : Array Value} {below : List Frame} {meth : Method} {c : Code} {E : Ev} {r : Int32} {S1 : St} (X : GX p s m meth c args cX7_come 5 (some .int) RX7 E) (N : Nat) : ∀ (n : Nat) (S : St) (x1 : Int32), f_X7_come_6 N n S x1 = some (r, S1) → ∀ (H : Heap) (locs : List Loc), HH E S s H locs → ∀ ls : Array Slot, lv_has ls 5 [(0, .ref (bb E 32)), (1, .int x1)] → W p l e (rmL 5) s m args below meth c H locs 0 0 (MQ below (QI E r S1 s.heap.size) args s 0 0 (AA E s.heap.size)) (F0 m 6 ls []) := by
  have hx := X.1
  have hb := X.2.1
  intro n
  induction n with
  | zero =>
    intro S x1 hf
    cases hf
  | succ n ih =>
    intro S x1 hf H locs hH ls hl
    rw [f_X7_come_6] at hf
    refine lv_iload_n hx hb dX7_come_6 rfl (lv_at hl 1 rfl) ?_
    refine lv_sipush (v := (nI 7737)) hx hb dX7_come_7 (by decide) ?_
    refine lv_icmp_ge (tgt := 26) hx hb dX7_come_10 (by decide) (fun c0 => ?_) (fun c0 => ?_)
    · replace hf := ite_t c0 hf
      refine lv_aload_n hx hb dX7_come_26 rfl (lv_at hl 0 rfl) ?_
      refine fg_X7_65 X hH dX7_come_27 ?_
      refine lv_aload_n hx hb dX7_come_30 rfl (lv_at hl 0 rfl) ?_
      refine fg_X7_111 X hH dX7_come_31 ?_
      refine lv_iconst (v := (nI 1)) hx hb dX7_come_34 (by decide) ?_
      obtain ⟨g, hf⟩ := ite_g hf
      refine r_iast X hH (a_51 E) g dX7_come_35 (fun H locs hH => ?_)
      obtain ⟨S1, ex, hf⟩ := bnd_go hf
      replace hH := HH_eq ex hH
      clear ex
      refine lv_aload_n hx hb dX7_come_36 rfl (lv_at hl 0 rfl) ?_
      refine fg_X7_62 X hH dX7_come_37 ?_
      refine lv_iconst (v := (nI 0)) hx hb dX7_come_40 (by decide) ?_
      refine lv_aload_n hx hb dX7_come_41 rfl (lv_at hl 0 rfl) ?_
      refine fg_X7_111 X hH dX7_come_42 ?_
      obtain ⟨g, hf⟩ := ite_g hf
      refine r_iast X hH (a_50 E) g dX7_come_45 (fun H locs hH => ?_)
      obtain ⟨S2, ex, hf⟩ := bnd_go hf
      replace hH := HH_eq ex hH
      clear ex
      refine lv_iconst (v := (nI 1)) hx hb dX7_come_46 (by decide) ?_
      refine lv_topi (fun y3 ex => ?_)
      replace hf := bnd_at ex hf
      clear ex
      refine lv_istore_n (lv' := [(1, .int y3), (0, .ref (bb E 32))]) hx hb dX7_come_47 rfl hl (by decide) rfl (fun ls hl => ?_)
      refine lv_iconst (v := (nI 0)) hx hb dX7_come_48 (by decide) ?_
      refine lv_topi (fun y4 ex => ?_)
      replace hf := bnd_at ex hf
      clear ex
      refine lv_istore_n (lv' := [(2, .int y4), (1, .int y3), (0, .ref (bb E 32))]) hx hb dX7_come_49 rfl hl (by decide) rfl (fun ls hl => ?_)
      exact w_X7_come_50 X N N S2 y3 y4 hf _ _ hH _ (lv_sub hl [2, 1, 0] rfl)
    · replace hf := ite_f c0 hf
      refine lv_aload_n hx hb dX7_come_13 rfl (lv_at hl 0 rfl) ?_
      refine fg_X7_65 X hH dX7_come_14 ?_
      refine lv_iload_n hx hb dX7_come_17 rfl (lv_at hl 1 rfl) ?_
      refine lv_iconst (v := (nI 0)) hx hb dX7_come_18 (by decide) ?_
      obtain ⟨g, hf⟩ := ite_g hf
      refine r_iast X hH (a_51 E) g dX7_come_19 (fun H locs hH => ?_)
      obtain ⟨S5, ex, hf⟩ := bnd_go hf
      replace hH := HH_eq ex hH
      clear ex
      obtain ⟨y6, ex, hf⟩ := bnd_go hf
      refine lv_iinc (v := y6) (lv' := [(1, .int y6), (0, .ref (bb E 32))]) hx hb dX7_come_20 hl (k := 1) rfl (by rw [ex]; rfl) (by decide) rfl (fun ls hl => ?_)
      clear ex
      refine lv_goto (tgt := 6) hx hb dX7_come_23 (by decide) ?_
      exact ih S5 y6 hf _ _ hH _ (lv_sub hl [1, 0] rfl)
set_option maxRecDepth 100000 in
set_option maxHeartbeats 4000000 in
theorem w_X7_come_0 {p : Program} {l : Launch} {e : Env} {s : State} {m : MethodId} {args : Array Value} {below : List Frame} {meth : Method} {c : Code} {E : Ev} {r : Int32} {S1 : St} (X : GX p s m meth c args cX7_come 5 (some .int) RX7 E) (N : Nat) : ∀ (S : St), f_X7_come N S = some (r, S1) → ∀ (H : Heap) (locs : List Loc), HH E S s H locs → ∀ ls : Array Slot, lv_has ls 5 [(0, .ref (bb E 32))] → W p l e (rmL 5) s m args below meth c H locs 0 0 (MQ below (QI E r S1 s.heap.size) args s 0 0 (AA E s.heap.size)) (F0 m 0 ls []) := by
  have hx := X.1
  have hb := X.2.1
  intro S hf H locs hH ls hl
  rw [f_X7_come] at hf
  refine lv_aload_n hx hb dX7_come_0 rfl (lv_at hl 0 rfl) ?_
  obtain ⟨_, S1, h2, hf⟩ := cal_g hf
  refine go_v hH (run_V X hH (rest := []) (c_X7_findMakes N S h2) gm_X7_198 (by decide) (e_32 E _) rfl rfl hl.1 (rmL_ok (by decide) (by decide)) (Nat.le_of_ble_eq_true rfl) rfl dX7_come_1) (fun H locs hH => ?_)
  clear h2
  refine lv_iconst (v := (nI 0)) hx hb dX7_come_4 (by decide) ?_
  refine lv_topi (fun y4 ex => ?_)
  replace hf := bnd_at ex hf
  clear ex
  refine lv_istore_n (lv' := [(1, .int y4), (0, .ref (bb E 32))]) hx hb dX7_come_5 rfl hl (by decide) rfl (fun ls hl => ?_)
  exact w_X7_come_6 X N N S1 y4 hf _ _ hH _ (lv_sub hl [1, 0] rfl)
theorem c_X7_come {l : Launch} {E : Ev} (N : Nat) (S : St) {r : Int32} {S1 : St} (hf : f_X7_come N S = some (r, S1)) : Ct l yX7_come (.code yX7_come cX7_come 5 (some .int)) 5 E [.ref (bb E 32)] S (QI E r S1) := by
  refine Ct.of (by decide) (Nat.le_of_ble_eq_true rfl) (fun p e s m below meth c ls X hH hl => ?_)
  exact w_X7_come_0 X N S hf _ _ hH _ hl
set_option maxRecDepth 100000 in
set_option maxHeartbeats 4000000 in
theorem w_X7_copy_190 {p : Program} {l : Launch} {e : Env} {s : State} {m : MethodId} {args : Array Value} {below : List Frame} {meth : Method} {c : Code} {E : Ev} {r : Int32} {S1 : St} (X : GX p s m meth c args cX7_copy 10 (some .int) RX7 E) (N : Nat) (k166 : St → Int32 → Int32 → Int32 → Int32 → Int32 → Int32 → Int32 → Option (Int32 × St)) (hk166 : ∀ (S : St) (x1 : Int32) (x2 : Int32) (x3 : Int32) (x4 : Int32) (x5 : Int32) (x7 : Int32) (x8 : Int32), k166 S x1 x2 x3 x4 x5 x7 x8 = some (r, S1) → ∀ (H : Heap) (locs : List Loc), HH E S s H locs → ∀ ls : Array Slot, lv_has ls 10 [(0, .ref (bb E 32)), (1, .int x1), (2, .int x2), (3, .int x3), (4, .int x4), (5, .int x5), (7, .int x7), (8, .int x8)] → W p l e (rmL 3) s m args below meth c H locs 0 0 (MQ below (QI E r S1 s.heap.size) args s 0 0 (AA E s.heap.size)) (F0 m 166 ls [])) : ∀ (S : St) (x1 : Int32) (x2 : Int32) (x3 : Int32) (x4 : Int32) (x5 : Int32) (x7 : Int32) (x8 : Int32) (xs0 : Int32), f_X7_copy_190 N k166 S x1 x2 x3 x4 x5 x7 x8 xs0 = some (r, S1) → ∀ (H : Heap) (locs : List Loc), HH E S s H locs → ∀ ls : Array Slot, lv_has ls 10 [(0, .ref (bb E 32)), (1, .int x1), (2, .int x2), (3, .int x3), (4, .int x4), (5, .int x5), (7, .int x7), (8, .int x8)] → W p l e (rmL 3) s m args below meth c H locs 0 0 (MQ below (QI E r S1 s.heap.size) args s 0 0 (AA E s.heap.size)) (F0 m 190 ls [.int xs0]) := by
  have hx := X.1
  have hb := X.2.1
  intro S x1 x2 x3 x4 x5 x7 x8 xs0 hf H locs hH ls hl
  rw [f_X7_copy_190] at hf
  refine lv_istore (lv' := [(9, .int xs0), (0, .ref (bb E 32)), (1, .int x1), (2, .int x2), (3, .int x3), (4, .int x4), (5, .int x5), (7, .int x7), (8, .int x8)]) hx hb dX7_copy_190 hl (by decide) rfl (fun ls hl => ?_)
  refine lv_aload_n hx hb dX7_copy_192 rfl (lv_at hl 1 rfl) ?_
  refine fg_X7_16 X hH dX7_copy_193 ?_
  refine lv_bipush (v := (nI 60)) hx hb dX7_copy_196 (by decide) ?_
  refine lv_iload_n hx hb dX7_copy_198 rfl (lv_at hl 4 rfl) ?_
  refine lv_imul hx hb dX7_copy_199 ?_
  refine lv_iload hx hb dX7_copy_200 (lv_at hl 5 rfl) ?_
  refine lv_iadd hx hb dX7_copy_202 ?_
  refine lv_iload hx hb dX7_copy_203 (lv_at hl 0 rfl) ?_
  refine lv_iadd hx hb dX7_copy_205 ?_
  refine lv_aload_n hx hb dX7_copy_206 rfl (lv_at hl 1 rfl) ?_
  refine fg_X7_16 X hH dX7_copy_207 ?_
  refine lv_bipush (v := (nI 60)) hx hb dX7_copy_210 (by decide) ?_
  refine lv_iload_n hx hb dX7_copy_212 rfl (lv_at hl 2 rfl) ?_
  refine lv_imul hx hb dX7_copy_213 ?_
  refine lv_iload_n hx hb dX7_copy_214 rfl (lv_at hl 3 rfl) ?_
  refine lv_iadd hx hb dX7_copy_215 ?_
  refine lv_iload hx hb dX7_copy_216 (lv_at hl 0 rfl) ?_
  refine lv_iadd hx hb dX7_copy_218 ?_
  obtain ⟨g, hf⟩ := ite_g hf
  refine r_iald X hH (a_35 E) g dX7_copy_219 ?_
  obtain ⟨g, hf⟩ := ite_g hf
  refine r_iast X hH (a_35 E) g dX7_copy_220 (fun H locs hH => ?_)
  obtain ⟨S1, ex, hf⟩ := bnd_go hf
  replace hH := HH_eq ex hH
  clear ex
  obtain ⟨y2, ex, hf⟩ := bnd_go hf
  refine lv_iinc (v := y2) (lv' := [(8, .int y2), (9, .int xs0), (0, .ref (bb E 32)), (1, .int x1), (2, .int x2), (3, .int x3), (4, .int x4), (5, .int x5), (7, .int x7)]) hx hb dX7_copy_221 hl (k := 8) rfl (by rw [ex]; rfl) (by decide) rfl (fun ls hl => ?_)
  clear ex
  refine lv_goto (tgt := 166) hx hb dX7_copy_224 (by decide) ?_
  exact hk166 S1 x1 x2 x3 x4 x5 x7 y2 hf _ _ hH _ (lv_sub hl [2, 3, 4, 5, 6, 7, 8, 0] rfl)
set_option maxRecDepth 100000 in
set_option maxHeartbeats 4000000 in
theorem w_X7_copy_166 {p : Program} {l : Launch} {e : Env} {s : State} {m : MethodId} {args : Array Value} {below : List Frame} {meth : Method} {c : Code} {E : Ev} {r : Int32} {S1 : St} (X : GX p s m meth c args cX7_copy 10 (some .int) RX7 E) (N : Nat) : ∀ (n : Nat) (S : St) (x1 : Int32) (x2 : Int32) (x3 : Int32) (x4 : Int32) (x5 : Int32) (x7 : Int32) (x8 : Int32), f_X7_copy_166 N n S x1 x2 x3 x4 x5 x7 x8 = some (r, S1) → ∀ (H : Heap) (locs : List Loc), HH E S s H locs → ∀ ls : Array Slot, lv_has ls 10 [(0, .ref (bb E 32)), (1, .int x1), (2, .int x2), (3, .int x3), (4, .int x4), (5, .int x5), (7, .int x7), (8, .int x8)] → W p l e (rmL 3) s m args below meth c H locs 0 0 (MQ below (QI E r S1 s.heap.size) args s 0 0 (AA E s.heap.size)) (F0 m 166 ls []) := by
  have hx := X.1
  have hb := X.2.1
  intro n
  induction n with
  | zero =>
    intro S x1 x2 x3 x4 x5 x7 x8 hf
    cases hf
  | succ n ih =>
    intro S x1 x2 x3 x4 x5 x7 x8 hf H locs hH ls hl
    rw [f_X7_copy_166] at hf
    refine lv_iload hx hb dX7_copy_166 (lv_at hl 7 rfl) ?_
    refine lv_iload hx hb dX7_copy_168 (lv_at hl 5 rfl) ?_
    refine lv_icmp_ge (tgt := 227) hx hb dX7_copy_170 (by decide) (fun c0 => ?_) (fun c0 => ?_)
    · replace hf := ite_t c0 hf
      refine lv_iload hx hb dX7_copy_227 (lv_at hl 5 rfl) ?_
      exact r_iret X hH hf dX7_copy_229
    · replace hf := ite_f c0 hf
      refine lv_iload hx hb dX7_copy_173 (lv_at hl 6 rfl) ?_
      refine lv_if_eq (tgt := 188) hx hb dX7_copy_175 (by decide) (fun c0 => ?_) (fun c0 => ?_)
      · replace hf := ite_t c0 hf
        refine lv_iload hx hb dX7_copy_188 (lv_at hl 7 rfl) ?_
        exact w_X7_copy_190 X N (f_X7_copy_166 N n) ih S x1 x2 x3 x4 x5 x7 x8 x8 hf _ _ hH _ (lv_sub hl [0, 1, 2, 3, 4, 5, 6, 7] rfl)
      · replace hf := ite_f c0 hf
        refine lv_iload hx hb dX7_copy_178 (lv_at hl 5 rfl) ?_
        refine lv_iconst (v := (nI 1)) hx hb dX7_copy_180 (by decide) ?_
        refine lv_isub hx hb dX7_copy_181 ?_
        refine lv_iload hx hb dX7_copy_182 (lv_at hl 7 rfl) ?_
        refine lv_isub hx hb dX7_copy_184 ?_
        refine lv_goto (tgt := 190) hx hb dX7_copy_185 (by decide) ?_
        exact w_X7_copy_190 X N (f_X7_copy_166 N n) ih S x1 x2 x3 x4 x5 x7 x8 ((x5 - (nI 1)) - x8) hf _ _ hH _ (lv_sub hl [0, 1, 2, 3, 4, 5, 6, 7] rfl)
set_option maxRecDepth 100000 in
set_option maxHeartbeats 4000000 in
theorem w_X7_copy_110 {p : Program} {l : Launch} {e : Env} {s : State} {m : MethodId} {args : Array Value} {below : List Frame} {meth : Method} {c : Code} {E : Ev} {r : Int32} {S1 : St} (X : GX p s m meth c args cX7_copy 10 (some .int) RX7 E) (N : Nat) : ∀ (S : St) (x1 : Int32) (x2 : Int32) (x3 : Int32) (x4 : Int32) (x5 : Int32) (xs0 : Int32), f_X7_copy_110 N S x1 x2 x3 x4 x5 xs0 = some (r, S1) → ∀ (H : Heap) (locs : List Loc), HH E S s H locs → ∀ ls : Array Slot, lv_has ls 10 [(0, .ref (bb E 32)), (1, .int x1), (2, .int x2), (3, .int x3), (4, .int x4), (5, .int x5)] → W p l e (rmL 3) s m args below meth c H locs 0 0 (MQ below (QI E r S1 s.heap.size) args s 0 0 (AA E s.heap.size)) (F0 m 110 ls [.int xs0]) := by
  have hx := X.1
  have hb := X.2.1
  intro S x1 x2 x3 x4 x5 xs0 hf H locs hH ls hl
  rw [f_X7_copy_110] at hf
  refine lv_istore (lv' := [(6, .int xs0), (0, .ref (bb E 32)), (1, .int x1), (2, .int x2), (3, .int x3), (4, .int x4), (5, .int x5)]) hx hb dX7_copy_110 hl (by decide) rfl (fun ls hl => ?_)
  refine lv_iload hx hb dX7_copy_112 (lv_at hl 0 rfl) ?_
  refine lv_if_eq (tgt := 144) hx hb dX7_copy_114 (by decide) (fun c0 => ?_) (fun c0 => ?_)
  · replace hf := ite_t c0 hf
    refine lv_aload_n hx hb dX7_copy_144 rfl (lv_at hl 1 rfl) ?_
    refine lv_iconst (v := (nI 3)) hx hb dX7_copy_145 (by decide) ?_
    obtain ⟨r3, S1, h2, hf⟩ := cal_g hf
    refine go_i hH (run_V X hH (rest := []) (c_X7_fails N S (nI 3) h2) gm_X7_98 (by decide) (e_32 E _) rfl rfl hl.1 (rmL_ok (by decide) (by decide)) (Nat.le_of_ble_eq_true rfl) rfl dX7_copy_146) (fun H locs hH => ?_)
    clear h2
    exact r_iret X hH hf dX7_copy_149
  · replace hf := ite_f c0 hf
    refine lv_iload hx hb dX7_copy_117 (lv_at hl 6 rfl) ?_
    refine lv_aload_n hx hb dX7_copy_119 rfl (lv_at hl 1 rfl) ?_
    refine fg_X7_13 X hH dX7_copy_120 ?_
    refine lv_iload_n hx hb dX7_copy_123 rfl (lv_at hl 2 rfl) ?_
    obtain ⟨g, hf⟩ := ite_g hf
    refine r_iald X hH (a_34 E) g dX7_copy_124 ?_
    refine lv_iload_n hx hb dX7_copy_125 rfl (lv_at hl 3 rfl) ?_
    refine lv_isub hx hb dX7_copy_126 ?_
    refine lv_icmp_gt (tgt := 144) hx hb dX7_copy_127 (by decide) (fun c0 => ?_) (fun c0 => ?_)
    · replace hf := ite_t c0 hf
      refine lv_aload_n hx hb dX7_copy_144 rfl (lv_at hl 1 rfl) ?_
      refine lv_iconst (v := (nI 3)) hx hb dX7_copy_145 (by decide) ?_
      obtain ⟨r6, S4, h5, hf⟩ := cal_g hf
      refine go_i hH (run_V X hH (rest := []) (c_X7_fails N S (nI 3) h5) gm_X7_98 (by decide) (e_32 E _) rfl rfl hl.1 (rmL_ok (by decide) (by decide)) (Nat.le_of_ble_eq_true rfl) rfl dX7_copy_146) (fun H locs hH => ?_)
      clear h5
      exact r_iret X hH hf dX7_copy_149
    · replace hf := ite_f c0 hf
      refine lv_iload hx hb dX7_copy_130 (lv_at hl 6 rfl) ?_
      refine lv_aload_n hx hb dX7_copy_132 rfl (lv_at hl 1 rfl) ?_
      refine fg_X7_13 X hH dX7_copy_133 ?_
      refine lv_iload_n hx hb dX7_copy_136 rfl (lv_at hl 4 rfl) ?_
      obtain ⟨g, hf⟩ := ite_g hf
      refine r_iald X hH (a_34 E) g dX7_copy_137 ?_
      refine lv_iload hx hb dX7_copy_138 (lv_at hl 5 rfl) ?_
      refine lv_isub hx hb dX7_copy_140 ?_
      refine lv_icmp_le (tgt := 150) hx hb dX7_copy_141 (by decide) (fun c0 => ?_) (fun c0 => ?_)
      · replace hf := ite_t c0 hf
        refine lv_iload_n hx hb dX7_copy_150 rfl (lv_at hl 3 rfl) ?_
        refine lv_iload hx hb dX7_copy_151 (lv_at hl 5 rfl) ?_
        refine lv_icmp_ge (tgt := 160) hx hb dX7_copy_153 (by decide) (fun c0 => ?_) (fun c0 => ?_)
        · replace hf := ite_t c0 hf
          refine lv_iconst (v := (nI 0)) hx hb dX7_copy_160 (by decide) ?_
          refine lv_topi (fun y7 ex => ?_)
          replace hf := bnd_at ex hf
          clear ex
          refine lv_istore (lv' := [(7, .int y7), (6, .int xs0), (0, .ref (bb E 32)), (1, .int x1), (2, .int x2), (3, .int x3), (4, .int x4), (5, .int x5)]) hx hb dX7_copy_161 hl (by decide) rfl (fun ls hl => ?_)
          refine lv_iconst (v := (nI 0)) hx hb dX7_copy_163 (by decide) ?_
          refine lv_topi (fun y8 ex => ?_)
          replace hf := bnd_at ex hf
          clear ex
          refine lv_istore (lv' := [(8, .int y8), (7, .int y7), (6, .int xs0), (0, .ref (bb E 32)), (1, .int x1), (2, .int x2), (3, .int x3), (4, .int x4), (5, .int x5)]) hx hb dX7_copy_164 hl (by decide) rfl (fun ls hl => ?_)
          exact w_X7_copy_166 X N N S x1 x2 x3 x4 x5 y7 y8 hf _ _ hH _ (lv_sub hl [3, 4, 5, 6, 7, 8, 1, 0] rfl)
        · replace hf := ite_f c0 hf
          refine lv_iconst (v := (nI 1)) hx hb dX7_copy_156 (by decide) ?_
          refine lv_goto (tgt := 161) hx hb dX7_copy_157 (by decide) ?_
          refine lv_topi (fun y9 ex => ?_)
          replace hf := bnd_at ex hf
          clear ex
          refine lv_istore (lv' := [(7, .int y9), (6, .int xs0), (0, .ref (bb E 32)), (1, .int x1), (2, .int x2), (3, .int x3), (4, .int x4), (5, .int x5)]) hx hb dX7_copy_161 hl (by decide) rfl (fun ls hl => ?_)
          refine lv_iconst (v := (nI 0)) hx hb dX7_copy_163 (by decide) ?_
          refine lv_topi (fun y10 ex => ?_)
          replace hf := bnd_at ex hf
          clear ex
          refine lv_istore (lv' := [(8, .int y10), (7, .int y9), (6, .int xs0), (0, .ref (bb E 32)), (1, .int x1), (2, .int x2), (3, .int x3), (4, .int x4), (5, .int x5)]) hx hb dX7_copy_164 hl (by decide) rfl (fun ls hl => ?_)
          exact w_X7_copy_166 X N N S x1 x2 x3 x4 x5 y9 y10 hf _ _ hH _ (lv_sub hl [3, 4, 5, 6, 7, 8, 1, 0] rfl)
      · replace hf := ite_f c0 hf
        refine lv_aload_n hx hb dX7_copy_144 rfl (lv_at hl 1 rfl) ?_
        refine lv_iconst (v := (nI 3)) hx hb dX7_copy_145 (by decide) ?_
        obtain ⟨r13, S11, h12, hf⟩ := cal_g hf
        refine go_i hH (run_V X hH (rest := []) (c_X7_fails N S (nI 3) h12) gm_X7_98 (by decide) (e_32 E _) rfl rfl hl.1 (rmL_ok (by decide) (by decide)) (Nat.le_of_ble_eq_true rfl) rfl dX7_copy_146) (fun H locs hH => ?_)
        clear h12
        exact r_iret X hH hf dX7_copy_149
set_option maxRecDepth 100000 in
set_option maxHeartbeats 4000000 in
theorem w_X7_copy_0 {p : Program} {l : Launch} {e : Env} {s : State} {m : MethodId} {args : Array Value} {below : List Frame} {meth : Method} {c : Code} {E : Ev} {r : Int32} {S1 : St} (X : GX p s m meth c args cX7_copy 10 (some .int) RX7 E) (N : Nat) : ∀ (S : St) (x1 : Int32) (x2 : Int32) (x3 : Int32) (x4 : Int32) (x5 : Int32), f_X7_copy N S x1 x2 x3 x4 x5 = some (r, S1) → ∀ (H : Heap) (locs : List Loc), HH E S s H locs → ∀ ls : Array Slot, lv_has ls 10 [(0, .ref (bb E 32)), (1, .int x1), (2, .int x2), (3, .int x3), (4, .int x4), (5, .int x5)] → W p l e (rmL 3) s m args below meth c H locs 0 0 (MQ below (QI E r S1 s.heap.size) args s 0 0 (AA E s.heap.size)) (F0 m 0 ls []) := by
  have hx := X.1
  have hb := X.2.1
  intro S x1 x2 x3 x4 x5 hf H locs hH ls hl
  rw [f_X7_copy] at hf
  refine lv_aload_n hx hb dX7_copy_0 rfl (lv_at hl 0 rfl) ?_
  refine lv_iconst (v := (nI 0)) hx hb dX7_copy_1 (by decide) ?_
  refine fp_X7_74 X hH dX7_copy_2 (fun H locs hH => ?_)
  obtain ⟨S1, ex, hf⟩ := bnd_go hf
  replace hH := HH_eq ex hH
  clear ex
  refine lv_iload_n hx hb dX7_copy_5 rfl (lv_at hl 1 rfl) ?_
  obtain ⟨r4, S2, h3, hf⟩ := cal_g hf
  refine go_i hH (run_S X hH (rest := []) (c_X7_isSheet N S1 x1 h3) gm_X7_87 rfl hl.1 (rmL_ok (by decide) (by decide)) (Nat.le_of_ble_eq_true rfl) rfl dX7_copy_6) (fun H locs hH => ?_)
  clear h3
  refine lv_if_eq (tgt := 19) hx hb dX7_copy_9 (by decide) (fun c0 => ?_) (fun c0 => ?_)
  · replace hf := ite_t c0 hf
    refine lv_iconst (v := (-1 : Int32)) hx hb dX7_copy_19 (by decide) ?_
    exact r_iret X hH hf dX7_copy_20
  · replace hf := ite_f c0 hf
    refine lv_iload_n hx hb dX7_copy_12 rfl (lv_at hl 3 rfl) ?_
    obtain ⟨r7, S5, h6, hf⟩ := cal_g hf
    refine go_i hH (run_S X hH (rest := []) (c_X7_isSheet N S2 x3 h6) gm_X7_87 rfl hl.1 (rmL_ok (by decide) (by decide)) (Nat.le_of_ble_eq_true rfl) rfl dX7_copy_13) (fun H locs hH => ?_)
    clear h6
    refine lv_if_ne (tgt := 21) hx hb dX7_copy_16 (by decide) (fun c0 => ?_) (fun c0 => ?_)
    · replace hf := ite_f c0 hf
      refine lv_aload_n hx hb dX7_copy_21 rfl (lv_at hl 0 rfl) ?_
      refine fg_X7_9 X hH dX7_copy_22 ?_
      refine lv_iload_n hx hb dX7_copy_25 rfl (lv_at hl 1 rfl) ?_
      obtain ⟨g, hf⟩ := ite_g hf
      refine r_iald X hH (a_33 E) g dX7_copy_26 ?_
      refine lv_bipush (v := (-9 : Int32)) hx hb dX7_copy_27 (by decide) ?_
      refine lv_icmp_eq (tgt := 43) hx hb dX7_copy_29 (by decide) (fun c0 => ?_) (fun c0 => ?_)
      · replace hf := ite_t c0 hf
        refine lv_aload_n hx hb dX7_copy_43 rfl (lv_at hl 0 rfl) ?_
        refine lv_iconst (v := (nI 1)) hx hb dX7_copy_44 (by decide) ?_
        obtain ⟨r10, S8, h9, hf⟩ := cal_g hf
        refine go_i hH (run_V X hH (rest := []) (c_X7_fails N S5 (nI 1) h9) gm_X7_98 (by decide) (e_32 E _) rfl rfl hl.1 (rmL_ok (by decide) (by decide)) (Nat.le_of_ble_eq_true rfl) rfl dX7_copy_45) (fun H locs hH => ?_)
        clear h9
        exact r_iret X hH hf dX7_copy_48
      · replace hf := ite_f c0 hf
        refine lv_aload_n hx hb dX7_copy_32 rfl (lv_at hl 0 rfl) ?_
        refine fg_X7_9 X hH dX7_copy_33 ?_
        refine lv_iload_n hx hb dX7_copy_36 rfl (lv_at hl 3 rfl) ?_
        obtain ⟨g, hf⟩ := ite_g hf
        refine r_iald X hH (a_33 E) g dX7_copy_37 ?_
        refine lv_bipush (v := (-9 : Int32)) hx hb dX7_copy_38 (by decide) ?_
        refine lv_icmp_ne (tgt := 49) hx hb dX7_copy_40 (by decide) (fun c0 => ?_) (fun c0 => ?_)
        · replace hf := ite_f c0 hf
          refine lv_aload_n hx hb dX7_copy_49 rfl (lv_at hl 0 rfl) ?_
          refine fg_X7_9 X hH dX7_copy_50 ?_
          refine lv_iload_n hx hb dX7_copy_53 rfl (lv_at hl 1 rfl) ?_
          obtain ⟨g, hf⟩ := ite_g hf
          refine r_iald X hH (a_33 E) g dX7_copy_54 ?_
          refine lv_aload_n hx hb dX7_copy_55 rfl (lv_at hl 0 rfl) ?_
          refine fg_X7_9 X hH dX7_copy_56 ?_
          refine lv_iload_n hx hb dX7_copy_59 rfl (lv_at hl 3 rfl) ?_
          obtain ⟨g, hf⟩ := ite_g hf
          refine r_iald X hH (a_33 E) g dX7_copy_60 ?_
          refine lv_icmp_eq (tgt := 70) hx hb dX7_copy_61 (by decide) (fun c0 => ?_) (fun c0 => ?_)
          · replace hf := ite_t c0 hf
            refine lv_iload_n hx hb dX7_copy_70 rfl (lv_at hl 2 rfl) ?_
            refine lv_if_lt (tgt := 109) hx hb dX7_copy_71 (by decide) (fun c0 => ?_) (fun c0 => ?_)
            · replace hf := ite_t c0 hf
              refine lv_iconst (v := (nI 0)) hx hb dX7_copy_109 (by decide) ?_
              exact w_X7_copy_110 X N S5 x1 x2 x3 x4 x5 (nI 0) hf _ _ hH _ (lv_sub hl [0, 1, 2, 3, 4, 5] rfl)
            · replace hf := ite_f c0 hf
              refine lv_iload hx hb dX7_copy_74 (lv_at hl 4 rfl) ?_
              refine lv_if_lt (tgt := 109) hx hb dX7_copy_76 (by decide) (fun c0 => ?_) (fun c0 => ?_)
              · replace hf := ite_t c0 hf
                refine lv_iconst (v := (nI 0)) hx hb dX7_copy_109 (by decide) ?_
                exact w_X7_copy_110 X N S5 x1 x2 x3 x4 x5 (nI 0) hf _ _ hH _ (lv_sub hl [0, 1, 2, 3, 4, 5] rfl)
              · replace hf := ite_f c0 hf
                refine lv_iload hx hb dX7_copy_79 (lv_at hl 5 rfl) ?_
                refine lv_if_lt (tgt := 109) hx hb dX7_copy_81 (by decide) (fun c0 => ?_) (fun c0 => ?_)
                · replace hf := ite_t c0 hf
                  refine lv_iconst (v := (nI 0)) hx hb dX7_copy_109 (by decide) ?_
                  exact w_X7_copy_110 X N S5 x1 x2 x3 x4 x5 (nI 0) hf _ _ hH _ (lv_sub hl [0, 1, 2, 3, 4, 5] rfl)
                · replace hf := ite_f c0 hf
                  refine lv_iload_n hx hb dX7_copy_84 rfl (lv_at hl 2 rfl) ?_
                  refine lv_aload_n hx hb dX7_copy_85 rfl (lv_at hl 0 rfl) ?_
                  refine fg_X7_13 X hH dX7_copy_86 ?_
                  refine lv_iload_n hx hb dX7_copy_89 rfl (lv_at hl 1 rfl) ?_
                  obtain ⟨g, hf⟩ := ite_g hf
                  refine r_iald X hH (a_34 E) g dX7_copy_90 ?_
                  refine lv_icmp_gt (tgt := 109) hx hb dX7_copy_91 (by decide) (fun c0 => ?_) (fun c0 => ?_)
                  · replace hf := ite_t c0 hf
                    refine lv_iconst (v := (nI 0)) hx hb dX7_copy_109 (by decide) ?_
                    exact w_X7_copy_110 X N S5 x1 x2 x3 x4 x5 (nI 0) hf _ _ hH _ (lv_sub hl [0, 1, 2, 3, 4, 5] rfl)
                  · replace hf := ite_f c0 hf
                    refine lv_iload hx hb dX7_copy_94 (lv_at hl 4 rfl) ?_
                    refine lv_aload_n hx hb dX7_copy_96 rfl (lv_at hl 0 rfl) ?_
                    refine fg_X7_13 X hH dX7_copy_97 ?_
                    refine lv_iload_n hx hb dX7_copy_100 rfl (lv_at hl 3 rfl) ?_
                    obtain ⟨g, hf⟩ := ite_g hf
                    refine r_iald X hH (a_34 E) g dX7_copy_101 ?_
                    refine lv_icmp_gt (tgt := 109) hx hb dX7_copy_102 (by decide) (fun c0 => ?_) (fun c0 => ?_)
                    · replace hf := ite_t c0 hf
                      refine lv_iconst (v := (nI 0)) hx hb dX7_copy_109 (by decide) ?_
                      exact w_X7_copy_110 X N S5 x1 x2 x3 x4 x5 (nI 0) hf _ _ hH _ (lv_sub hl [0, 1, 2, 3, 4, 5] rfl)
                    · replace hf := ite_f c0 hf
                      refine lv_iconst (v := (nI 1)) hx hb dX7_copy_105 (by decide) ?_
                      refine lv_goto (tgt := 110) hx hb dX7_copy_106 (by decide) ?_
                      exact w_X7_copy_110 X N S5 x1 x2 x3 x4 x5 (nI 1) hf _ _ hH _ (lv_sub hl [0, 1, 2, 3, 4, 5] rfl)
          · replace hf := ite_f c0 hf
            refine lv_aload_n hx hb dX7_copy_64 rfl (lv_at hl 0 rfl) ?_
            refine lv_iconst (v := (nI 2)) hx hb dX7_copy_65 (by decide) ?_
            obtain ⟨r13, S11, h12, hf⟩ := cal_g hf
            refine go_i hH (run_V X hH (rest := []) (c_X7_fails N S5 (nI 2) h12) gm_X7_98 (by decide) (e_32 E _) rfl rfl hl.1 (rmL_ok (by decide) (by decide)) (Nat.le_of_ble_eq_true rfl) rfl dX7_copy_66) (fun H locs hH => ?_)
            clear h12
            exact r_iret X hH hf dX7_copy_69
        · replace hf := ite_t c0 hf
          refine lv_aload_n hx hb dX7_copy_43 rfl (lv_at hl 0 rfl) ?_
          refine lv_iconst (v := (nI 1)) hx hb dX7_copy_44 (by decide) ?_
          obtain ⟨r16, S14, h15, hf⟩ := cal_g hf
          refine go_i hH (run_V X hH (rest := []) (c_X7_fails N S5 (nI 1) h15) gm_X7_98 (by decide) (e_32 E _) rfl rfl hl.1 (rmL_ok (by decide) (by decide)) (Nat.le_of_ble_eq_true rfl) rfl dX7_copy_45) (fun H locs hH => ?_)
          clear h15
          exact r_iret X hH hf dX7_copy_48
    · replace hf := ite_t c0 hf
      refine lv_iconst (v := (-1 : Int32)) hx hb dX7_copy_19 (by decide) ?_
      exact r_iret X hH hf dX7_copy_20
theorem c_X7_copy {l : Launch} {E : Ev} (N : Nat) (S : St) (x1 : Int32) (x2 : Int32) (x3 : Int32) (x4 : Int32) (x5 : Int32) {r : Int32} {S1 : St} (hf : f_X7_copy N S x1 x2 x3 x4 x5 = some (r, S1)) : Ct l yX7_copy (.code yX7_copy cX7_copy 10 (some .int)) 3 E [.ref (bb E 32), .int x1, .int x2, .int x3, .int x4, .int x5] S (QI E r S1) := by
  refine Ct.of (by decide) (Nat.le_of_ble_eq_true rfl) (fun p e s m below meth c ls X hH hl => ?_)
  exact w_X7_copy_0 X N S x1 x2 x3 x4 x5 hf _ _ hH _ hl
set_option maxRecDepth 100000 in
set_option maxHeartbeats 4000000 in
theorem w_X7_fault_0 {p : Program} {l : Launch} {e : Env} {s : State} {m : MethodId} {args : Array Value} {below : List Frame} {meth : Method} {c : Code} {E : Ev} {r : Int32} {S1 : St} (X : GX p s m meth c args cX7_fault 1 (some .int) RX7 E) (N : Nat) : ∀ (S : St), f_X7_fault N S = some (r, S1) → ∀ (H : Heap) (locs : List Loc), HH E S s H locs → ∀ ls : Array Slot, lv_has ls 1 [(0, .ref (bb E 32))] → W p l e (rmL 1) s m args below meth c H locs 0 0 (MQ below (QI E r S1 s.heap.size) args s 0 0 (AA E s.heap.size)) (F0 m 0 ls []) := by
  have hx := X.1
  have hb := X.2.1
  intro S hf H locs hH ls hl
  rw [f_X7_fault] at hf
  refine lv_aload_n hx hb dX7_fault_0 rfl (lv_at hl 0 rfl) ?_
  refine fg_X7_74 X hH dX7_fault_1 ?_
  exact r_iret X hH hf dX7_fault_4
theorem c_X7_fault {l : Launch} {E : Ev} (N : Nat) (S : St) {r : Int32} {S1 : St} (hf : f_X7_fault N S = some (r, S1)) : Ct l yX7_fault (.code yX7_fault cX7_fault 1 (some .int)) 1 E [.ref (bb E 32)] S (QI E r S1) := by
  refine Ct.of (by decide) (Nat.le_of_ble_eq_true rfl) (fun p e s m below meth c ls X hH hl => ?_)
  exact w_X7_fault_0 X N S hf _ _ hH _ hl
set_option maxRecDepth 100000 in
set_option maxHeartbeats 4000000 in
theorem w_X7_hasTold_17 {p : Program} {l : Launch} {e : Env} {s : State} {m : MethodId} {args : Array Value} {below : List Frame} {meth : Method} {c : Code} {E : Ev} {r : Int32} {S1 : St} (X : GX p s m meth c args cX7_hasTold 5 (some .boolean) RX7 E) (N : Nat) : ∀ (n : Nat) (S : St) (x1 : Int32) (x2 : Int32) (x3 : Int32) (x4 : Int32), f_X7_hasTold_17 N n S x1 x2 x3 x4 = some (r, S1) → ∀ (H : Heap) (locs : List Loc), HH E S s H locs → ∀ ls : Array Slot, lv_has ls 5 [(0, .ref (bb E 32)), (1, .int x1), (2, .int x2), (3, .int x3), (4, .int x4)] → W p l e (rmL 1) s m args below meth c H locs 0 0 (MQ below (QI E r S1 s.heap.size) args s 0 0 (AA E s.heap.size)) (F0 m 17 ls []) := by
  have hx := X.1
  have hb := X.2.1
  intro n
  induction n with
  | zero =>
    intro S x1 x2 x3 x4 hf
    cases hf
  | succ n ih =>
    intro S x1 x2 x3 x4 hf H locs hH ls hl
    rw [f_X7_hasTold_17] at hf
    refine lv_iload hx hb dX7_hasTold_17 (lv_at hl 4 rfl) ?_
    refine lv_iload_n hx hb dX7_hasTold_19 rfl (lv_at hl 2 rfl) ?_
    refine lv_icmp_ge (tgt := 58) hx hb dX7_hasTold_20 (by decide) (fun c0 => ?_) (fun c0 => ?_)
    · replace hf := ite_t c0 hf
      refine lv_iload_n hx hb dX7_hasTold_58 rfl (lv_at hl 3 rfl) ?_
      obtain ⟨g, hf⟩ := ite_g hf
      exact r_zret X hH (nb_n g) hf dX7_hasTold_59
    · replace hf := ite_f c0 hf
      refine lv_iload_n hx hb dX7_hasTold_23 rfl (lv_at hl 3 rfl) ?_
      refine lv_if_eq (tgt := 58) hx hb dX7_hasTold_24 (by decide) (fun c0 => ?_) (fun c0 => ?_)
      · replace hf := ite_t c0 hf
        refine lv_iload_n hx hb dX7_hasTold_58 rfl (lv_at hl 3 rfl) ?_
        obtain ⟨g, hf⟩ := ite_g hf
        exact r_zret X hH (nb_n g) hf dX7_hasTold_59
      · replace hf := ite_f c0 hf
        refine lv_aload_n hx hb dX7_hasTold_27 rfl (lv_at hl 0 rfl) ?_
        refine fg_X7_46 X hH dX7_hasTold_28 ?_
        refine lv_iload hx hb dX7_hasTold_31 (lv_at hl 4 rfl) ?_
        obtain ⟨g, hf⟩ := ite_g hf
        refine r_iald X hH (a_45 E) g dX7_hasTold_33 ?_
        refine lv_aload_n hx hb dX7_hasTold_34 rfl (lv_at hl 0 rfl) ?_
        refine fg_X7_16 X hH dX7_hasTold_35 ?_
        refine lv_iload_n hx hb dX7_hasTold_38 rfl (lv_at hl 1 rfl) ?_
        refine lv_iload hx hb dX7_hasTold_39 (lv_at hl 4 rfl) ?_
        refine lv_iadd hx hb dX7_hasTold_41 ?_
        obtain ⟨g, hf⟩ := ite_g hf
        refine r_iald X hH (a_35 E) g dX7_hasTold_42 ?_
        refine lv_icmp_ne (tgt := 50) hx hb dX7_hasTold_43 (by decide) (fun c0 => ?_) (fun c0 => ?_)
        · replace hf := ite_f c0 hf
          refine lv_iconst (v := (nI 0)) hx hb dX7_hasTold_50 (by decide) ?_
          refine lv_topi (fun y1 ex => ?_)
          replace hf := bnd_at ex hf
          clear ex
          refine lv_istore_n (lv' := [(3, .int y1), (0, .ref (bb E 32)), (1, .int x1), (2, .int x2), (4, .int x4)]) hx hb dX7_hasTold_51 rfl hl (by decide) rfl (fun ls hl => ?_)
          obtain ⟨y2, ex, hf⟩ := bnd_go hf
          refine lv_iinc (v := y2) (lv' := [(4, .int y2), (3, .int y1), (0, .ref (bb E 32)), (1, .int x1), (2, .int x2)]) hx hb dX7_hasTold_52 hl (k := 4) rfl (by rw [ex]; rfl) (by decide) rfl (fun ls hl => ?_)
          clear ex
          refine lv_goto (tgt := 17) hx hb dX7_hasTold_55 (by decide) ?_
          exact ih S x1 x2 y1 y2 hf _ _ hH _ (lv_sub hl [2, 3, 4, 1, 0] rfl)
        · replace hf := ite_t c0 hf
          refine lv_iconst (v := (nI 1)) hx hb dX7_hasTold_46 (by decide) ?_
          refine lv_goto (tgt := 51) hx hb dX7_hasTold_47 (by decide) ?_
          refine lv_topi (fun y3 ex => ?_)
          replace hf := bnd_at ex hf
          clear ex
          refine lv_istore_n (lv' := [(3, .int y3), (0, .ref (bb E 32)), (1, .int x1), (2, .int x2), (4, .int x4)]) hx hb dX7_hasTold_51 rfl hl (by decide) rfl (fun ls hl => ?_)
          obtain ⟨y4, ex, hf⟩ := bnd_go hf
          refine lv_iinc (v := y4) (lv' := [(4, .int y4), (3, .int y3), (0, .ref (bb E 32)), (1, .int x1), (2, .int x2)]) hx hb dX7_hasTold_52 hl (k := 4) rfl (by rw [ex]; rfl) (by decide) rfl (fun ls hl => ?_)
          clear ex
          refine lv_goto (tgt := 17) hx hb dX7_hasTold_55 (by decide) ?_
          exact ih S x1 x2 y3 y4 hf _ _ hH _ (lv_sub hl [2, 3, 4, 1, 0] rfl)
set_option maxRecDepth 100000 in
set_option maxHeartbeats 4000000 in
theorem w_X7_hasTold_0 {p : Program} {l : Launch} {e : Env} {s : State} {m : MethodId} {args : Array Value} {below : List Frame} {meth : Method} {c : Code} {E : Ev} {r : Int32} {S1 : St} (X : GX p s m meth c args cX7_hasTold 5 (some .boolean) RX7 E) (N : Nat) : ∀ (S : St) (x1 : Int32) (x2 : Int32), f_X7_hasTold N S x1 x2 = some (r, S1) → ∀ (H : Heap) (locs : List Loc), HH E S s H locs → ∀ ls : Array Slot, lv_has ls 5 [(0, .ref (bb E 32)), (1, .int x1), (2, .int x2)] → W p l e (rmL 1) s m args below meth c H locs 0 0 (MQ below (QI E r S1 s.heap.size) args s 0 0 (AA E s.heap.size)) (F0 m 0 ls []) := by
  have hx := X.1
  have hb := X.2.1
  intro S x1 x2 hf H locs hH ls hl
  rw [f_X7_hasTold] at hf
  refine lv_aload_n hx hb dX7_hasTold_0 rfl (lv_at hl 0 rfl) ?_
  refine fg_X7_140 X hH dX7_hasTold_1 ?_
  refine lv_iload_n hx hb dX7_hasTold_4 rfl (lv_at hl 2 rfl) ?_
  refine lv_icmp_ne (tgt := 12) hx hb dX7_hasTold_5 (by decide) (fun c0 => ?_) (fun c0 => ?_)
  · replace hf := ite_f c0 hf
    refine lv_iconst (v := (nI 0)) hx hb dX7_hasTold_12 (by decide) ?_
    refine lv_topi (fun y1 ex => ?_)
    replace hf := bnd_at ex hf
    clear ex
    refine lv_istore_n (lv' := [(3, .int y1), (0, .ref (bb E 32)), (1, .int x1), (2, .int x2)]) hx hb dX7_hasTold_13 rfl hl (by decide) rfl (fun ls hl => ?_)
    refine lv_iconst (v := (nI 0)) hx hb dX7_hasTold_14 (by decide) ?_
    refine lv_topi (fun y2 ex => ?_)
    replace hf := bnd_at ex hf
    clear ex
    refine lv_istore (lv' := [(4, .int y2), (3, .int y1), (0, .ref (bb E 32)), (1, .int x1), (2, .int x2)]) hx hb dX7_hasTold_15 hl (by decide) rfl (fun ls hl => ?_)
    exact w_X7_hasTold_17 X N N S x1 x2 y1 y2 hf _ _ hH _ (lv_sub hl [2, 3, 4, 1, 0] rfl)
  · replace hf := ite_t c0 hf
    refine lv_iconst (v := (nI 1)) hx hb dX7_hasTold_8 (by decide) ?_
    refine lv_goto (tgt := 13) hx hb dX7_hasTold_9 (by decide) ?_
    refine lv_topi (fun y3 ex => ?_)
    replace hf := bnd_at ex hf
    clear ex
    refine lv_istore_n (lv' := [(3, .int y3), (0, .ref (bb E 32)), (1, .int x1), (2, .int x2)]) hx hb dX7_hasTold_13 rfl hl (by decide) rfl (fun ls hl => ?_)
    refine lv_iconst (v := (nI 0)) hx hb dX7_hasTold_14 (by decide) ?_
    refine lv_topi (fun y4 ex => ?_)
    replace hf := bnd_at ex hf
    clear ex
    refine lv_istore (lv' := [(4, .int y4), (3, .int y3), (0, .ref (bb E 32)), (1, .int x1), (2, .int x2)]) hx hb dX7_hasTold_15 hl (by decide) rfl (fun ls hl => ?_)
    exact w_X7_hasTold_17 X N N S x1 x2 y3 y4 hf _ _ hH _ (lv_sub hl [2, 3, 4, 1, 0] rfl)
theorem c_X7_hasTold {l : Launch} {E : Ev} (N : Nat) (S : St) (x1 : Int32) (x2 : Int32) {r : Int32} {S1 : St} (hf : f_X7_hasTold N S x1 x2 = some (r, S1)) : Ct l yX7_hasTold (.code yX7_hasTold cX7_hasTold 5 (some .boolean)) 1 E [.ref (bb E 32), .int x1, .int x2] S (QI E r S1) := by
  refine Ct.of (by decide) (Nat.le_of_ble_eq_true rfl) (fun p e s m below meth c ls X hH hl => ?_)
  exact w_X7_hasTold_0 X N S x1 x2 hf _ _ hH _ hl
set_option maxRecDepth 100000 in
set_option maxHeartbeats 4000000 in
theorem w_X7_findFar_66 {p : Program} {l : Launch} {e : Env} {s : State} {m : MethodId} {args : Array Value} {below : List Frame} {meth : Method} {c : Code} {E : Ev} {r : Unit} {S1 : St} (X : GX p s m meth c args cX7_findFar 8 none RX7 E) (N : Nat) (k46 : St → Int32 → Int32 → Option (Unit × St)) (hk46 : ∀ (S : St) (x3 : Int32) (x4 : Int32), k46 S x3 x4 = some (r, S1) → ∀ (H : Heap) (locs : List Loc), HH E S s H locs → ∀ ls : Array Slot, lv_has ls 8 [(0, .ref (bb E 32)), (3, .int x3), (4, .int x4)] → W p l e (rmL 3) s m args below meth c H locs 0 0 (MQ below (QV E r S1 s.heap.size) args s 0 0 (AA E s.heap.size)) (F0 m 46 ls [])) (k55 : St → Int32 → Int32 → Int32 → Option (Unit × St)) (hk55 : ∀ (S : St) (x3 : Int32) (x4 : Int32) (x5 : Int32), k55 S x3 x4 x5 = some (r, S1) → ∀ (H : Heap) (locs : List Loc), HH E S s H locs → ∀ ls : Array Slot, lv_has ls 8 [(0, .ref (bb E 32)), (3, .int x3), (4, .int x4), (5, .int x5)] → W p l e (rmL 3) s m args below meth c H locs 0 0 (MQ below (QV E r S1 s.heap.size) args s 0 0 (AA E s.heap.size)) (F0 m 55 ls [])) : ∀ (n : Nat) (S : St) (x3 : Int32) (x4 : Int32) (x5 : Int32) (x6 : Int32), f_X7_findFar_66 N k46 k55 n S x3 x4 x5 x6 = some (r, S1) → ∀ (H : Heap) (locs : List Loc), HH E S s H locs → ∀ ls : Array Slot, lv_has ls 8 [(0, .ref (bb E 32)), (3, .int x3), (4, .int x4), (5, .int x5), (6, .int x6)] → W p l e (rmL 3) s m args below meth c H locs 0 0 (MQ below (QV E r S1 s.heap.size) args s 0 0 (AA E s.heap.size)) (F0 m 66 ls []) := by
  have hx := X.1
  have hb := X.2.1
  intro n
  induction n with
  | zero =>
    intro S x3 x4 x5 x6 hf
    cases hf
  | succ n ih =>
    intro S x3 x4 x5 x6 hf H locs hH ls hl
    rw [f_X7_findFar_66] at hf
    refine lv_iload hx hb dX7_findFar_66 (lv_at hl 4 rfl) ?_
    refine lv_aload_n hx hb dX7_findFar_68 rfl (lv_at hl 0 rfl) ?_
    obtain ⟨r3, S1, h2, hf⟩ := cal_g hf
    refine go_i hH (run_V X hH (rest := [.int x6]) (c_X7_keysThere N S h2) gm_X7_186 (by decide) (e_32 E _) rfl rfl hl.1 (rmL_ok (by decide) (by decide)) (Nat.le_of_ble_eq_true rfl) rfl dX7_findFar_69) (fun H locs hH => ?_)
    clear h2
    refine lv_icmp_ge (tgt := 134) hx hb dX7_findFar_72 (by decide) (fun c0 => ?_) (fun c0 => ?_)
    · replace hf := ite_t c0 hf
      obtain ⟨y4, ex, hf⟩ := bnd_go hf
      refine lv_iinc (v := y4) (lv' := [(5, .int y4), (0, .ref (bb E 32)), (3, .int x3), (4, .int x4), (6, .int x6)]) hx hb dX7_findFar_134 hl (k := 3) rfl (by rw [ex]; rfl) (by decide) rfl (fun ls hl => ?_)
      clear ex
      refine lv_goto (tgt := 55) hx hb dX7_findFar_137 (by decide) ?_
      exact hk55 S1 x3 x4 y4 hf _ _ hH _ (lv_sub hl [1, 2, 3, 0] rfl)
    · replace hf := ite_f c0 hf
      refine lv_aload_n hx hb dX7_findFar_75 rfl (lv_at hl 0 rfl) ?_
      refine fg_X7_62 X hH dX7_findFar_76 ?_
      refine lv_iload hx hb dX7_findFar_79 (lv_at hl 3 rfl) ?_
      obtain ⟨g, hf⟩ := ite_g hf
      refine r_iald X hH (a_50 E) g dX7_findFar_81 ?_
      refine lv_bipush (v := (-9 : Int32)) hx hb dX7_findFar_82 (by decide) ?_
      refine lv_icmp_ne (tgt := 134) hx hb dX7_findFar_84 (by decide) (fun c0 => ?_) (fun c0 => ?_)
      · replace hf := ite_f c0 hf
        obtain ⟨y5, ex, hf⟩ := bnd_go hf
        refine lv_iinc (v := y5) (lv' := [(5, .int y5), (0, .ref (bb E 32)), (3, .int x3), (4, .int x4), (6, .int x6)]) hx hb dX7_findFar_134 hl (k := 3) rfl (by rw [ex]; rfl) (by decide) rfl (fun ls hl => ?_)
        clear ex
        refine lv_goto (tgt := 55) hx hb dX7_findFar_137 (by decide) ?_
        exact hk55 S1 x3 x4 y5 hf _ _ hH _ (lv_sub hl [1, 2, 3, 0] rfl)
      · replace hf := ite_t c0 hf
        refine lv_aload_n hx hb dX7_findFar_87 rfl (lv_at hl 0 rfl) ?_
        refine fg_X7_62 X hH dX7_findFar_88 ?_
        refine lv_aload_n hx hb dX7_findFar_91 rfl (lv_at hl 0 rfl) ?_
        refine fg_X7_59 X hH dX7_findFar_92 ?_
        refine lv_sipush (v := (nI 7737)) hx hb dX7_findFar_95 (by decide) ?_
        refine lv_iload hx hb dX7_findFar_98 (lv_at hl 4 rfl) ?_
        refine lv_imul hx hb dX7_findFar_100 ?_
        refine lv_iload hx hb dX7_findFar_101 (lv_at hl 3 rfl) ?_
        refine lv_iadd hx hb dX7_findFar_103 ?_
        obtain ⟨g, hf⟩ := ite_g hf
        refine r_iald X hH (a_49 E) g dX7_findFar_104 ?_
        obtain ⟨g, hf⟩ := ite_g hf
        refine r_iald X hH (a_50 E) g dX7_findFar_105 ?_
        refine lv_topi (fun y6 ex => ?_)
        replace hf := bnd_at ex hf
        clear ex
        refine lv_istore (lv' := [(7, .int y6), (0, .ref (bb E 32)), (3, .int x3), (4, .int x4), (5, .int x5), (6, .int x6)]) hx hb dX7_findFar_106 hl (by decide) rfl (fun ls hl => ?_)
        refine lv_iload hx hb dX7_findFar_108 (lv_at hl 0 rfl) ?_
        refine lv_iload hx hb dX7_findFar_110 (lv_at hl 3 rfl) ?_
        refine lv_iconst (v := (nI 1)) hx hb dX7_findFar_112 (by decide) ?_
        refine lv_isub hx hb dX7_findFar_113 ?_
        refine lv_icmp_ne (tgt := 128) hx hb dX7_findFar_114 (by decide) (fun c0 => ?_) (fun c0 => ?_)
        · replace hf := ite_f c0 hf
          obtain ⟨y7, ex, hf⟩ := bnd_go hf
          refine lv_iinc (v := y7) (lv' := [(6, .int y7), (7, .int y6), (0, .ref (bb E 32)), (3, .int x3), (4, .int x4), (5, .int x5)]) hx hb dX7_findFar_128 hl (k := 5) rfl (by rw [ex]; rfl) (by decide) rfl (fun ls hl => ?_)
          clear ex
          refine lv_goto (tgt := 66) hx hb dX7_findFar_131 (by decide) ?_
          exact ih S1 x3 x4 x5 y7 hf _ _ hH _ (lv_sub hl [2, 3, 4, 5, 0] rfl)
        · replace hf := ite_t c0 hf
          refine lv_aload_n hx hb dX7_findFar_117 rfl (lv_at hl 1 rfl) ?_
          refine fg_X7_62 X hH dX7_findFar_118 ?_
          refine lv_iload hx hb dX7_findFar_121 (lv_at hl 4 rfl) ?_
          refine lv_iload hx hb dX7_findFar_123 (lv_at hl 3 rfl) ?_
          obtain ⟨g, hf⟩ := ite_g hf
          refine r_iast X hH (a_50 E) g dX7_findFar_125 (fun H locs hH => ?_)
          obtain ⟨S8, ex, hf⟩ := bnd_go hf
          replace hH := HH_eq ex hH
          clear ex
          refine lv_iconst (v := (nI 1)) hx hb dX7_findFar_126 (by decide) ?_
          refine lv_topi (fun y9 ex => ?_)
          replace hf := bnd_at ex hf
          clear ex
          refine lv_istore_n (lv' := [(3, .int y9), (7, .int y6), (0, .ref (bb E 32)), (4, .int x4), (5, .int x5), (6, .int x6)]) hx hb dX7_findFar_127 rfl hl (by decide) rfl (fun ls hl => ?_)
          obtain ⟨y10, ex, hf⟩ := bnd_go hf
          refine lv_iinc (v := y10) (lv' := [(6, .int y10), (3, .int y9), (7, .int y6), (0, .ref (bb E 32)), (4, .int x4), (5, .int x5)]) hx hb dX7_findFar_128 hl (k := 5) rfl (by rw [ex]; rfl) (by decide) rfl (fun ls hl => ?_)
          clear ex
          refine lv_goto (tgt := 66) hx hb dX7_findFar_131 (by decide) ?_
          exact ih S8 y9 x4 x5 y10 hf _ _ hH _ (lv_sub hl [3, 1, 4, 5, 0] rfl)
set_option maxRecDepth 100000 in
set_option maxHeartbeats 4000000 in
theorem w_X7_findFar_55 {p : Program} {l : Launch} {e : Env} {s : State} {m : MethodId} {args : Array Value} {below : List Frame} {meth : Method} {c : Code} {E : Ev} {r : Unit} {S1 : St} (X : GX p s m meth c args cX7_findFar 8 none RX7 E) (N : Nat) (k46 : St → Int32 → Int32 → Option (Unit × St)) (hk46 : ∀ (S : St) (x3 : Int32) (x4 : Int32), k46 S x3 x4 = some (r, S1) → ∀ (H : Heap) (locs : List Loc), HH E S s H locs → ∀ ls : Array Slot, lv_has ls 8 [(0, .ref (bb E 32)), (3, .int x3), (4, .int x4)] → W p l e (rmL 3) s m args below meth c H locs 0 0 (MQ below (QV E r S1 s.heap.size) args s 0 0 (AA E s.heap.size)) (F0 m 46 ls [])) : ∀ (n : Nat) (S : St) (x3 : Int32) (x4 : Int32) (x5 : Int32), f_X7_findFar_55 N k46 n S x3 x4 x5 = some (r, S1) → ∀ (H : Heap) (locs : List Loc), HH E S s H locs → ∀ ls : Array Slot, lv_has ls 8 [(0, .ref (bb E 32)), (3, .int x3), (4, .int x4), (5, .int x5)] → W p l e (rmL 3) s m args below meth c H locs 0 0 (MQ below (QV E r S1 s.heap.size) args s 0 0 (AA E s.heap.size)) (F0 m 55 ls []) := by
  have hx := X.1
  have hb := X.2.1
  intro n
  induction n with
  | zero =>
    intro S x3 x4 x5 hf
    cases hf
  | succ n ih =>
    intro S x3 x4 x5 hf H locs hH ls hl
    rw [f_X7_findFar_55] at hf
    refine lv_iload hx hb dX7_findFar_55 (lv_at hl 3 rfl) ?_
    refine lv_sipush (v := (nI 7737)) hx hb dX7_findFar_57 (by decide) ?_
    refine lv_icmp_ge (tgt := 140) hx hb dX7_findFar_60 (by decide) (fun c0 => ?_) (fun c0 => ?_)
    · replace hf := ite_t c0 hf
      obtain ⟨y1, ex, hf⟩ := bnd_go hf
      refine lv_iinc (v := y1) (lv' := [(4, .int y1), (0, .ref (bb E 32)), (3, .int x3), (5, .int x5)]) hx hb dX7_findFar_140 hl (k := 2) rfl (by rw [ex]; rfl) (by decide) rfl (fun ls hl => ?_)
      clear ex
      refine lv_goto (tgt := 46) hx hb dX7_findFar_143 (by decide) ?_
      exact hk46 S x3 y1 hf _ _ hH _ (lv_sub hl [1, 2, 0] rfl)
    · replace hf := ite_f c0 hf
      refine lv_iconst (v := (nI 0)) hx hb dX7_findFar_63 (by decide) ?_
      refine lv_topi (fun y2 ex => ?_)
      replace hf := bnd_at ex hf
      clear ex
      refine lv_istore (lv' := [(6, .int y2), (0, .ref (bb E 32)), (3, .int x3), (4, .int x4), (5, .int x5)]) hx hb dX7_findFar_64 hl (by decide) rfl (fun ls hl => ?_)
      exact w_X7_findFar_66 X N k46 hk46 (f_X7_findFar_55 N k46 n) ih N S x3 x4 x5 y2 hf _ _ hH _ (lv_sub hl [1, 2, 3, 4, 0] rfl)
set_option maxRecDepth 100000 in
set_option maxHeartbeats 4000000 in
theorem w_X7_findFar_46 {p : Program} {l : Launch} {e : Env} {s : State} {m : MethodId} {args : Array Value} {below : List Frame} {meth : Method} {c : Code} {E : Ev} {r : Unit} {S1 : St} (X : GX p s m meth c args cX7_findFar 8 none RX7 E) (N : Nat) : ∀ (n : Nat) (S : St) (x3 : Int32) (x4 : Int32), f_X7_findFar_46 N n S x3 x4 = some (r, S1) → ∀ (H : Heap) (locs : List Loc), HH E S s H locs → ∀ ls : Array Slot, lv_has ls 8 [(0, .ref (bb E 32)), (3, .int x3), (4, .int x4)] → W p l e (rmL 3) s m args below meth c H locs 0 0 (MQ below (QV E r S1 s.heap.size) args s 0 0 (AA E s.heap.size)) (F0 m 46 ls []) := by
  have hx := X.1
  have hb := X.2.1
  intro n
  induction n with
  | zero =>
    intro S x3 x4 hf
    cases hf
  | succ n ih =>
    intro S x3 x4 hf H locs hH ls hl
    rw [f_X7_findFar_46] at hf
    refine lv_iload_n hx hb dX7_findFar_46 rfl (lv_at hl 1 rfl) ?_
    refine lv_if_eq (tgt := 146) hx hb dX7_findFar_47 (by decide) (fun c0 => ?_) (fun c0 => ?_)
    · replace hf := ite_t c0 hf
      exact r_vret X hH hf dX7_findFar_146
    · replace hf := ite_f c0 hf
      refine lv_iconst (v := (nI 0)) hx hb dX7_findFar_50 (by decide) ?_
      refine lv_topi (fun y1 ex => ?_)
      replace hf := bnd_at ex hf
      clear ex
      refine lv_istore_n (lv' := [(3, .int y1), (0, .ref (bb E 32)), (4, .int x4)]) hx hb dX7_findFar_51 rfl hl (by decide) rfl (fun ls hl => ?_)
      refine lv_iconst (v := (nI 0)) hx hb dX7_findFar_52 (by decide) ?_
      refine lv_topi (fun y2 ex => ?_)
      replace hf := bnd_at ex hf
      clear ex
      refine lv_istore (lv' := [(5, .int y2), (3, .int y1), (0, .ref (bb E 32)), (4, .int x4)]) hx hb dX7_findFar_53 hl (by decide) rfl (fun ls hl => ?_)
      exact w_X7_findFar_55 X N (f_X7_findFar_46 N n) ih N S y1 x4 y2 hf _ _ hH _ (lv_sub hl [2, 1, 3, 0] rfl)
set_option maxRecDepth 100000 in
set_option maxHeartbeats 4000000 in
theorem w_X7_findFar_2 {p : Program} {l : Launch} {e : Env} {s : State} {m : MethodId} {args : Array Value} {below : List Frame} {meth : Method} {c : Code} {E : Ev} {r : Unit} {S1 : St} (X : GX p s m meth c args cX7_findFar 8 none RX7 E) (N : Nat) : ∀ (n : Nat) (S : St) (x1 : Int32) (x2 : Int32) (x3 : Int32), f_X7_findFar_2 N n S x1 x2 x3 = some (r, S1) → ∀ (H : Heap) (locs : List Loc), HH E S s H locs → ∀ ls : Array Slot, lv_has ls 8 [(0, .ref (bb E 32)), (1, .int x1), (2, .int x2), (3, .int x3)] → W p l e (rmL 3) s m args below meth c H locs 0 0 (MQ below (QV E r S1 s.heap.size) args s 0 0 (AA E s.heap.size)) (F0 m 2 ls []) := by
  have hx := X.1
  have hb := X.2.1
  intro n
  induction n with
  | zero =>
    intro S x1 x2 x3 hf
    cases hf
  | succ n ih =>
    intro S x1 x2 x3 hf H locs hH ls hl
    rw [f_X7_findFar_2] at hf
    refine lv_iload_n hx hb dX7_findFar_2 rfl (lv_at hl 3 rfl) ?_
    refine lv_sipush (v := (nI 7737)) hx hb dX7_findFar_3 (by decide) ?_
    refine lv_icmp_ge (tgt := 41) hx hb dX7_findFar_6 (by decide) (fun c0 => ?_) (fun c0 => ?_)
    · replace hf := ite_t c0 hf
      refine lv_iconst (v := (nI 1)) hx hb dX7_findFar_41 (by decide) ?_
      refine lv_topi (fun y1 ex => ?_)
      replace hf := bnd_at ex hf
      clear ex
      refine lv_istore_n (lv' := [(3, .int y1), (0, .ref (bb E 32)), (1, .int x1), (2, .int x2)]) hx hb dX7_findFar_42 rfl hl (by decide) rfl (fun ls hl => ?_)
      refine lv_iconst (v := (nI 1)) hx hb dX7_findFar_43 (by decide) ?_
      refine lv_topi (fun y2 ex => ?_)
      replace hf := bnd_at ex hf
      clear ex
      refine lv_istore (lv' := [(4, .int y2), (3, .int y1), (0, .ref (bb E 32)), (1, .int x1), (2, .int x2)]) hx hb dX7_findFar_44 hl (by decide) rfl (fun ls hl => ?_)
      exact w_X7_findFar_46 X N N S y1 y2 hf _ _ hH _ (lv_sub hl [2, 1, 0] rfl)
    · replace hf := ite_f c0 hf
      refine lv_aload_n hx hb dX7_findFar_9 rfl (lv_at hl 0 rfl) ?_
      refine lv_iload_n hx hb dX7_findFar_10 rfl (lv_at hl 3 rfl) ?_
      obtain ⟨_, S3, h4, hf⟩ := cal_g hf
      refine go_v hH (run_V X hH (rest := []) (c_X7_workOn N S x3 h4) gm_X7_165 (by decide) (e_32 E _) rfl rfl hl.1 (rmL_ok (by decide) (by decide)) (Nat.le_of_ble_eq_true rfl) rfl dX7_findFar_11) (fun H locs hH => ?_)
      clear h4
      refine lv_aload_n hx hb dX7_findFar_14 rfl (lv_at hl 0 rfl) ?_
      refine fg_X7_62 X hH dX7_findFar_15 ?_
      refine lv_iload_n hx hb dX7_findFar_18 rfl (lv_at hl 3 rfl) ?_
      refine lv_aload_n hx hb dX7_findFar_19 rfl (lv_at hl 0 rfl) ?_
      refine lv_iload_n hx hb dX7_findFar_20 rfl (lv_at hl 1 rfl) ?_
      refine lv_iload_n hx hb dX7_findFar_21 rfl (lv_at hl 2 rfl) ?_
      obtain ⟨r8, S6, h7, hf⟩ := cal_g hf
      refine go_i hH (run_V X hH (rest := [.int x3, .ref (bb E 50)]) (c_X7_hasTold N S3 x1 x2 h7) gm_X7_195 (by decide) (e_32 E _) rfl rfl hl.1 (rmL_ok (by decide) (by decide)) (Nat.le_of_ble_eq_true rfl) rfl dX7_findFar_22) (fun H locs hH => ?_)
      clear h7
      refine lv_if_eq (tgt := 32) hx hb dX7_findFar_25 (by decide) (fun c0 => ?_) (fun c0 => ?_)
      · replace hf := ite_t c0 hf
        refine lv_bipush (v := (-9 : Int32)) hx hb dX7_findFar_32 (by decide) ?_
        obtain ⟨g, hf⟩ := ite_g hf
        refine r_iast X hH (a_50 E) g dX7_findFar_34 (fun H locs hH => ?_)
        obtain ⟨S9, ex, hf⟩ := bnd_go hf
        replace hH := HH_eq ex hH
        clear ex
        obtain ⟨y10, ex, hf⟩ := bnd_go hf
        refine lv_iinc (v := y10) (lv' := [(3, .int y10), (0, .ref (bb E 32)), (1, .int x1), (2, .int x2)]) hx hb dX7_findFar_35 hl (k := 3) rfl (by rw [ex]; rfl) (by decide) rfl (fun ls hl => ?_)
        clear ex
        refine lv_goto (tgt := 2) hx hb dX7_findFar_38 (by decide) ?_
        exact ih S9 x1 x2 y10 hf _ _ hH _ (lv_sub hl [1, 2, 3, 0] rfl)
      · replace hf := ite_f c0 hf
        refine lv_iconst (v := (nI 0)) hx hb dX7_findFar_28 (by decide) ?_
        refine lv_goto (tgt := 34) hx hb dX7_findFar_29 (by decide) ?_
        obtain ⟨g, hf⟩ := ite_g hf
        refine r_iast X hH (a_50 E) g dX7_findFar_34 (fun H locs hH => ?_)
        obtain ⟨S11, ex, hf⟩ := bnd_go hf
        replace hH := HH_eq ex hH
        clear ex
        obtain ⟨y12, ex, hf⟩ := bnd_go hf
        refine lv_iinc (v := y12) (lv' := [(3, .int y12), (0, .ref (bb E 32)), (1, .int x1), (2, .int x2)]) hx hb dX7_findFar_35 hl (k := 3) rfl (by rw [ex]; rfl) (by decide) rfl (fun ls hl => ?_)
        clear ex
        refine lv_goto (tgt := 2) hx hb dX7_findFar_38 (by decide) ?_
        exact ih S11 x1 x2 y12 hf _ _ hH _ (lv_sub hl [1, 2, 3, 0] rfl)
set_option maxRecDepth 100000 in
set_option maxHeartbeats 4000000 in
theorem w_X7_findFar_0 {p : Program} {l : Launch} {e : Env} {s : State} {m : MethodId} {args : Array Value} {below : List Frame} {meth : Method} {c : Code} {E : Ev} {r : Unit} {S1 : St} (X : GX p s m meth c args cX7_findFar 8 none RX7 E) (N : Nat) : ∀ (S : St) (x1 : Int32) (x2 : Int32), f_X7_findFar N S x1 x2 = some (r, S1) → ∀ (H : Heap) (locs : List Loc), HH E S s H locs → ∀ ls : Array Slot, lv_has ls 8 [(0, .ref (bb E 32)), (1, .int x1), (2, .int x2)] → W p l e (rmL 3) s m args below meth c H locs 0 0 (MQ below (QV E r S1 s.heap.size) args s 0 0 (AA E s.heap.size)) (F0 m 0 ls []) := by
  have hx := X.1
  have hb := X.2.1
  intro S x1 x2 hf H locs hH ls hl
  rw [f_X7_findFar] at hf
  refine lv_iconst (v := (nI 0)) hx hb dX7_findFar_0 (by decide) ?_
  refine lv_topi (fun y1 ex => ?_)
  replace hf := bnd_at ex hf
  clear ex
  refine lv_istore_n (lv' := [(3, .int y1), (0, .ref (bb E 32)), (1, .int x1), (2, .int x2)]) hx hb dX7_findFar_1 rfl hl (by decide) rfl (fun ls hl => ?_)
  exact w_X7_findFar_2 X N N S x1 x2 y1 hf _ _ hH _ (lv_sub hl [1, 2, 3, 0] rfl)
theorem c_X7_findFar {l : Launch} {E : Ev} (N : Nat) (S : St) (x1 : Int32) (x2 : Int32) {r : Unit} {S1 : St} (hf : f_X7_findFar N S x1 x2 = some (r, S1)) : Ct l yX7_findFar (.code yX7_findFar cX7_findFar 8 none) 3 E [.ref (bb E 32), .int x1, .int x2] S (QV E r S1) := by
  refine Ct.of (by decide) (Nat.le_of_ble_eq_true rfl) (fun p e s m below meth c ls X hH hl => ?_)
  exact w_X7_findFar_0 X N S x1 x2 hf _ _ hH _ hl
set_option maxRecDepth 100000 in
set_option maxHeartbeats 4000000 in
theorem w_X7_fewest_180 {p : Program} {l : Launch} {e : Env} {s : State} {m : MethodId} {args : Array Value} {below : List Frame} {meth : Method} {c : Code} {E : Ev} {r : Int32} {S1 : St} (X : GX p s m meth c args cX7_fewest 11 (some .int) RX7 E) (N : Nat) (k170 : St → Int32 → Int32 → Int32 → Int32 → Option (Int32 × St)) (hk170 : ∀ (S : St) (x5 : Int32) (x8 : Int32) (x9 : Int32) (x10 : Int32), k170 S x5 x8 x9 x10 = some (r, S1) → ∀ (H : Heap) (locs : List Loc), HH E S s H locs → ∀ ls : Array Slot, lv_has ls 11 [(0, .ref (bb E 32)), (5, .int x5), (8, .int x8), (9, .int x9), (10, .int x10)] → W p l e (rmL 5) s m args below meth c H locs 0 0 (MQ below (QI E r S1 s.heap.size) args s 0 0 (AA E s.heap.size)) (F0 m 170 ls [])) : ∀ (n : Nat) (S : St) (x5 : Int32) (x8 : Int32) (x9 : Int32) (x10 : Int32), f_X7_fewest_180 N k170 n S x5 x8 x9 x10 = some (r, S1) → ∀ (H : Heap) (locs : List Loc), HH E S s H locs → ∀ ls : Array Slot, lv_has ls 11 [(0, .ref (bb E 32)), (5, .int x5), (8, .int x8), (9, .int x9), (10, .int x10)] → W p l e (rmL 5) s m args below meth c H locs 0 0 (MQ below (QI E r S1 s.heap.size) args s 0 0 (AA E s.heap.size)) (F0 m 180 ls []) := by
  have hx := X.1
  have hb := X.2.1
  intro n
  induction n with
  | zero =>
    intro S x5 x8 x9 x10 hf
    cases hf
  | succ n ih =>
    intro S x5 x8 x9 x10 hf H locs hH ls hl
    rw [f_X7_fewest_180] at hf
    refine lv_aload_n hx hb dX7_fewest_180 rfl (lv_at hl 0 rfl) ?_
    refine fg_X7_62 X hH dX7_fewest_181 ?_
    refine lv_aload_n hx hb dX7_fewest_184 rfl (lv_at hl 0 rfl) ?_
    refine fg_X7_59 X hH dX7_fewest_185 ?_
    refine lv_sipush (v := (nI 7737)) hx hb dX7_fewest_188 (by decide) ?_
    refine lv_iload hx hb dX7_fewest_191 (lv_at hl 3 rfl) ?_
    refine lv_imul hx hb dX7_fewest_193 ?_
    refine lv_iload hx hb dX7_fewest_194 (lv_at hl 2 rfl) ?_
    refine lv_iadd hx hb dX7_fewest_196 ?_
    obtain ⟨g, hf⟩ := ite_g hf
    refine r_iald X hH (a_49 E) g dX7_fewest_197 ?_
    obtain ⟨g, hf⟩ := ite_g hf
    refine r_iald X hH (a_50 E) g dX7_fewest_198 ?_
    refine lv_aload_n hx hb dX7_fewest_199 rfl (lv_at hl 0 rfl) ?_
    refine fg_X7_62 X hH dX7_fewest_200 ?_
    refine lv_iload hx hb dX7_fewest_203 (lv_at hl 2 rfl) ?_
    obtain ⟨g, hf⟩ := ite_g hf
    refine r_iald X hH (a_50 E) g dX7_fewest_205 ?_
    refine lv_iconst (v := (nI 1)) hx hb dX7_fewest_206 (by decide) ?_
    refine lv_isub hx hb dX7_fewest_207 ?_
    refine lv_icmp_eq (tgt := 217) hx hb dX7_fewest_208 (by decide) (fun c0 => ?_) (fun c0 => ?_)
    · replace hf := ite_t c0 hf
      refine lv_aload_n hx hb dX7_fewest_217 rfl (lv_at hl 0 rfl) ?_
      refine fg_X7_59 X hH dX7_fewest_218 ?_
      refine lv_sipush (v := (nI 7737)) hx hb dX7_fewest_221 (by decide) ?_
      refine lv_iload hx hb dX7_fewest_224 (lv_at hl 3 rfl) ?_
      refine lv_imul hx hb dX7_fewest_226 ?_
      refine lv_iload hx hb dX7_fewest_227 (lv_at hl 2 rfl) ?_
      refine lv_iadd hx hb dX7_fewest_229 ?_
      obtain ⟨g, hf⟩ := ite_g hf
      refine r_iald X hH (a_49 E) g dX7_fewest_230 ?_
      refine lv_topi (fun y1 ex => ?_)
      replace hf := bnd_at ex hf
      clear ex
      refine lv_istore (lv' := [(8, .int y1), (0, .ref (bb E 32)), (5, .int x5), (9, .int x9), (10, .int x10)]) hx hb dX7_fewest_231 hl (by decide) rfl (fun ls hl => ?_)
      obtain ⟨y2, ex, hf⟩ := bnd_go hf
      refine lv_iinc (v := y2) (lv' := [(10, .int y2), (8, .int y1), (0, .ref (bb E 32)), (5, .int x5), (9, .int x9)]) hx hb dX7_fewest_233 hl (k := 4) rfl (by rw [ex]; rfl) (by decide) rfl (fun ls hl => ?_)
      clear ex
      refine lv_goto (tgt := 170) hx hb dX7_fewest_236 (by decide) ?_
      exact hk170 S x5 y1 x9 y2 hf _ _ hH _ (lv_sub hl [2, 3, 1, 4, 0] rfl)
    · replace hf := ite_f c0 hf
      obtain ⟨y3, ex, hf⟩ := bnd_go hf
      refine lv_iinc (v := y3) (lv' := [(9, .int y3), (0, .ref (bb E 32)), (5, .int x5), (8, .int x8), (10, .int x10)]) hx hb dX7_fewest_211 hl (k := 3) rfl (by rw [ex]; rfl) (by decide) rfl (fun ls hl => ?_)
      clear ex
      refine lv_goto (tgt := 180) hx hb dX7_fewest_214 (by decide) ?_
      exact ih S x5 x8 y3 x10 hf _ _ hH _ (lv_sub hl [1, 2, 3, 0, 4] rfl)
set_option maxRecDepth 100000 in
set_option maxHeartbeats 4000000 in
theorem w_X7_fewest_170 {p : Program} {l : Launch} {e : Env} {s : State} {m : MethodId} {args : Array Value} {below : List Frame} {meth : Method} {c : Code} {E : Ev} {r : Int32} {S1 : St} (X : GX p s m meth c args cX7_fewest 11 (some .int) RX7 E) (N : Nat) : ∀ (n : Nat) (S : St) (x5 : Int32) (x8 : Int32) (x9 : Int32) (x10 : Int32), f_X7_fewest_170 N n S x5 x8 x9 x10 = some (r, S1) → ∀ (H : Heap) (locs : List Loc), HH E S s H locs → ∀ ls : Array Slot, lv_has ls 11 [(0, .ref (bb E 32)), (5, .int x5), (8, .int x8), (9, .int x9), (10, .int x10)] → W p l e (rmL 5) s m args below meth c H locs 0 0 (MQ below (QI E r S1 s.heap.size) args s 0 0 (AA E s.heap.size)) (F0 m 170 ls []) := by
  have hx := X.1
  have hb := X.2.1
  intro n
  induction n with
  | zero =>
    intro S x5 x8 x9 x10 hf
    cases hf
  | succ n ih =>
    intro S x5 x8 x9 x10 hf H locs hH ls hl
    rw [f_X7_fewest_170] at hf
    refine lv_iload hx hb dX7_fewest_170 (lv_at hl 4 rfl) ?_
    refine lv_iload hx hb dX7_fewest_172 (lv_at hl 1 rfl) ?_
    refine lv_icmp_gt (tgt := 239) hx hb dX7_fewest_174 (by decide) (fun c0 => ?_) (fun c0 => ?_)
    · replace hf := ite_t c0 hf
      refine lv_iload hx hb dX7_fewest_239 (lv_at hl 3 rfl) ?_
      exact r_iret X hH hf dX7_fewest_241
    · replace hf := ite_f c0 hf
      refine lv_iconst (v := (nI 0)) hx hb dX7_fewest_177 (by decide) ?_
      refine lv_topi (fun y1 ex => ?_)
      replace hf := bnd_at ex hf
      clear ex
      refine lv_istore (lv' := [(9, .int y1), (0, .ref (bb E 32)), (5, .int x5), (8, .int x8), (10, .int x10)]) hx hb dX7_fewest_178 hl (by decide) rfl (fun ls hl => ?_)
      exact w_X7_fewest_180 X N (f_X7_fewest_170 N n) ih N S x5 x8 y1 x10 hf _ _ hH _ (lv_sub hl [1, 2, 3, 0, 4] rfl)
set_option maxRecDepth 100000 in
set_option maxHeartbeats 4000000 in
theorem w_X7_fewest_79 {p : Program} {l : Launch} {e : Env} {s : State} {m : MethodId} {args : Array Value} {below : List Frame} {meth : Method} {c : Code} {E : Ev} {r : Int32} {S1 : St} (X : GX p s m meth c args cX7_fewest 11 (some .int) RX7 E) (N : Nat) : ∀ (n : Nat) (S : St) (x4 : Int32) (x5 : Int32) (x7 : Int32) (x8 : Int32), f_X7_fewest_79 N n S x4 x5 x7 x8 = some (r, S1) → ∀ (H : Heap) (locs : List Loc), HH E S s H locs → ∀ ls : Array Slot, lv_has ls 11 [(0, .ref (bb E 32)), (4, .int x4), (5, .int x5), (7, .int x7), (8, .int x8)] → W p l e (rmL 5) s m args below meth c H locs 0 0 (MQ below (QI E r S1 s.heap.size) args s 0 0 (AA E s.heap.size)) (F0 m 79 ls []) := by
  have hx := X.1
  have hb := X.2.1
  intro n
  induction n with
  | zero =>
    intro S x4 x5 x7 x8 hf
    cases hf
  | succ n ih =>
    intro S x4 x5 x7 x8 hf H locs hH ls hl
    rw [f_X7_fewest_79] at hf
    refine lv_iload hx hb dX7_fewest_79 (lv_at hl 4 rfl) ?_
    refine lv_iload hx hb dX7_fewest_81 (lv_at hl 1 rfl) ?_
    refine lv_icmp_ge (tgt := 113) hx hb dX7_fewest_83 (by decide) (fun c0 => ?_) (fun c0 => ?_)
    · replace hf := ite_t c0 hf
      refine lv_aload_n hx hb dX7_fewest_113 rfl (lv_at hl 0 rfl) ?_
      obtain ⟨_, S1, h2, hf⟩ := cal_g hf
      refine go_v hH (run_V X hH (rest := []) (c_X7_findMakes N S h2) gm_X7_198 (by decide) (e_32 E _) rfl rfl hl.1 (rmL_ok (by decide) (by decide)) (Nat.le_of_ble_eq_true rfl) rfl dX7_fewest_114) (fun H locs hH => ?_)
      clear h2
      refine lv_aload_n hx hb dX7_fewest_117 rfl (lv_at hl 0 rfl) ?_
      refine lv_iload hx hb dX7_fewest_118 (lv_at hl 3 rfl) ?_
      refine lv_iload hx hb dX7_fewest_120 (lv_at hl 1 rfl) ?_
      obtain ⟨_, S4, h5, hf⟩ := cal_g hf
      refine go_v hH (run_V X hH (rest := []) (c_X7_findFar N S1 x7 x4 h5) gm_X7_201 (by decide) (e_32 E _) rfl rfl hl.1 (rmL_ok (by decide) (by decide)) (Nat.le_of_ble_eq_true rfl) rfl dX7_fewest_122) (fun H locs hH => ?_)
      clear h5
      refine lv_iload hx hb dX7_fewest_125 (lv_at hl 2 rfl) ?_
      refine lv_iconst (v := (-1 : Int32)) hx hb dX7_fewest_127 (by decide) ?_
      refine lv_icmp_ne (tgt := 141) hx hb dX7_fewest_128 (by decide) (fun c0 => ?_) (fun c0 => ?_)
      · replace hf := ite_f c0 hf
        refine lv_iload hx hb dX7_fewest_141 (lv_at hl 2 rfl) ?_
        refine lv_aload_n hx hb dX7_fewest_143 rfl (lv_at hl 0 rfl) ?_
        refine fg_X7_62 X hH dX7_fewest_144 ?_
        refine lv_aload_n hx hb dX7_fewest_147 rfl (lv_at hl 0 rfl) ?_
        refine fg_X7_111 X hH dX7_fewest_148 ?_
        obtain ⟨g, hf⟩ := ite_g hf
        refine r_iald X hH (a_50 E) g dX7_fewest_151 ?_
        refine lv_icmp_lt (tgt := 158) hx hb dX7_fewest_152 (by decide) (fun c0 => ?_) (fun c0 => ?_)
        · replace hf := ite_t c0 hf
          refine lv_aload_n hx hb dX7_fewest_158 rfl (lv_at hl 0 rfl) ?_
          refine fg_X7_111 X hH dX7_fewest_159 ?_
          refine lv_topi (fun y7 ex => ?_)
          replace hf := bnd_at ex hf
          clear ex
          refine lv_istore (lv' := [(8, .int y7), (0, .ref (bb E 32)), (4, .int x4), (5, .int x5), (7, .int x7)]) hx hb dX7_fewest_162 hl (by decide) rfl (fun ls hl => ?_)
          refine lv_iconst (v := (nI 0)) hx hb dX7_fewest_164 (by decide) ?_
          refine lv_topi (fun y8 ex => ?_)
          replace hf := bnd_at ex hf
          clear ex
          refine lv_istore (lv' := [(9, .int y8), (8, .int y7), (0, .ref (bb E 32)), (4, .int x4), (5, .int x5), (7, .int x7)]) hx hb dX7_fewest_165 hl (by decide) rfl (fun ls hl => ?_)
          refine lv_iconst (v := (nI 0)) hx hb dX7_fewest_167 (by decide) ?_
          refine lv_topi (fun y9 ex => ?_)
          replace hf := bnd_at ex hf
          clear ex
          refine lv_istore (lv' := [(10, .int y9), (9, .int y8), (8, .int y7), (0, .ref (bb E 32)), (4, .int x4), (5, .int x5), (7, .int x7)]) hx hb dX7_fewest_168 hl (by decide) rfl (fun ls hl => ?_)
          exact w_X7_fewest_170 X N N S4 x5 y7 y8 y9 hf _ _ hH _ (lv_sub hl [3, 5, 2, 1, 0] rfl)
        · replace hf := ite_f c0 hf
          refine lv_bipush (v := (-9 : Int32)) hx hb dX7_fewest_155 (by decide) ?_
          exact r_iret X hH hf dX7_fewest_157
      · replace hf := ite_t c0 hf
        refine lv_aload_n hx hb dX7_fewest_131 rfl (lv_at hl 0 rfl) ?_
        refine fg_X7_62 X hH dX7_fewest_132 ?_
        refine lv_aload_n hx hb dX7_fewest_135 rfl (lv_at hl 0 rfl) ?_
        refine fg_X7_111 X hH dX7_fewest_136 ?_
        obtain ⟨g, hf⟩ := ite_g hf
        refine r_iald X hH (a_50 E) g dX7_fewest_139 ?_
        exact r_iret X hH hf dX7_fewest_140
    · replace hf := ite_f c0 hf
      refine lv_aload_n hx hb dX7_fewest_86 rfl (lv_at hl 0 rfl) ?_
      refine fg_X7_16 X hH dX7_fewest_87 ?_
      refine lv_iload hx hb dX7_fewest_90 (lv_at hl 3 rfl) ?_
      refine lv_iload hx hb dX7_fewest_92 (lv_at hl 4 rfl) ?_
      refine lv_iadd hx hb dX7_fewest_94 ?_
      obtain ⟨g, hf⟩ := ite_g hf
      refine r_iald X hH (a_35 E) g dX7_fewest_95 ?_
      refine lv_iconst (v := (nI 0)) hx hb dX7_fewest_96 (by decide) ?_
      refine lv_iconst (v := (nI 3)) hx hb dX7_fewest_97 (by decide) ?_
      obtain ⟨r12, S10, h11, hf⟩ := cal_g hf
      refine go_i hH (run_S X hH (rest := []) (c_X7_within N S (S 35 (x7 + x8).toNatClampNeg) (nI 0) (nI 3) h11) gm_X7_80 rfl hl.1 (rmL_ok (by decide) (by decide)) (Nat.le_of_ble_eq_true rfl) rfl dX7_fewest_98) (fun H locs hH => ?_)
      clear h11
      refine lv_if_ne (tgt := 107) hx hb dX7_fewest_101 (by decide) (fun c0 => ?_) (fun c0 => ?_)
      · replace hf := ite_f c0 hf
        obtain ⟨y13, ex, hf⟩ := bnd_go hf
        refine lv_iinc (v := y13) (lv' := [(8, .int y13), (0, .ref (bb E 32)), (4, .int x4), (5, .int x5), (7, .int x7)]) hx hb dX7_fewest_107 hl (k := 4) rfl (by rw [ex]; rfl) (by decide) rfl (fun ls hl => ?_)
        clear ex
        refine lv_goto (tgt := 79) hx hb dX7_fewest_110 (by decide) ?_
        exact ih S10 x4 x5 x7 y13 hf _ _ hH _ (lv_sub hl [1, 2, 3, 4, 0] rfl)
      · replace hf := ite_t c0 hf
        refine lv_bipush (v := (-2 : Int32)) hx hb dX7_fewest_104 (by decide) ?_
        exact r_iret X hH hf dX7_fewest_106
set_option maxRecDepth 100000 in
set_option maxHeartbeats 4000000 in
theorem w_X7_fewest_0 {p : Program} {l : Launch} {e : Env} {s : State} {m : MethodId} {args : Array Value} {below : List Frame} {meth : Method} {c : Code} {E : Ev} {r : Int32} {S1 : St} (X : GX p s m meth c args cX7_fewest 11 (some .int) RX7 E) (N : Nat) : ∀ (S : St) (x1 : Int32) (x2 : Int32) (x3 : Int32) (x4 : Int32) (x5 : Int32), f_X7_fewest N S x1 x2 x3 x4 x5 = some (r, S1) → ∀ (H : Heap) (locs : List Loc), HH E S s H locs → ∀ ls : Array Slot, lv_has ls 11 [(0, .ref (bb E 32)), (1, .int x1), (2, .int x2), (3, .int x3), (4, .int x4), (5, .int x5)] → W p l e (rmL 5) s m args below meth c H locs 0 0 (MQ below (QI E r S1 s.heap.size) args s 0 0 (AA E s.heap.size)) (F0 m 0 ls []) := by
  have hx := X.1
  have hb := X.2.1
  intro S x1 x2 x3 x4 x5 hf H locs hH ls hl
  rw [f_X7_fewest] at hf
  refine lv_aload_n hx hb dX7_fewest_0 rfl (lv_at hl 0 rfl) ?_
  refine lv_iconst (v := (nI 0)) hx hb dX7_fewest_1 (by decide) ?_
  refine fp_X7_74 X hH dX7_fewest_2 (fun H locs hH => ?_)
  obtain ⟨S1, ex, hf⟩ := bnd_go hf
  replace hH := HH_eq ex hH
  clear ex
  refine lv_iload_n hx hb dX7_fewest_5 rfl (lv_at hl 1 rfl) ?_
  obtain ⟨r4, S2, h3, hf⟩ := cal_g hf
  refine go_i hH (run_S X hH (rest := []) (c_X7_isSheet N S1 x1 h3) gm_X7_87 rfl hl.1 (rmL_ok (by decide) (by decide)) (Nat.le_of_ble_eq_true rfl) rfl dX7_fewest_6) (fun H locs hH => ?_)
  clear h3
  refine lv_if_ne (tgt := 14) hx hb dX7_fewest_9 (by decide) (fun c0 => ?_) (fun c0 => ?_)
  · replace hf := ite_f c0 hf
    refine lv_iload_n hx hb dX7_fewest_14 rfl (lv_at hl 2 rfl) ?_
    obtain ⟨r7, S5, h6, hf⟩ := cal_g hf
    refine go_i hH (run_S X hH (rest := []) (c_X7_isSort N S2 x2 h6) gm_X7_91 rfl hl.1 (rmL_ok (by decide) (by decide)) (Nat.le_of_ble_eq_true rfl) rfl dX7_fewest_15) (fun H locs hH => ?_)
    clear h6
    refine lv_if_eq (tgt := 42) hx hb dX7_fewest_18 (by decide) (fun c0 => ?_) (fun c0 => ?_)
    · replace hf := ite_t c0 hf
      refine lv_bipush (v := (-2 : Int32)) hx hb dX7_fewest_42 (by decide) ?_
      exact r_iret X hH hf dX7_fewest_44
    · replace hf := ite_f c0 hf
      refine lv_iload hx hb dX7_fewest_21 (lv_at hl 4 rfl) ?_
      refine lv_iconst (v := (nI 0)) hx hb dX7_fewest_23 (by decide) ?_
      refine lv_iconst (v := (nI 5)) hx hb dX7_fewest_24 (by decide) ?_
      obtain ⟨r10, S8, h9, hf⟩ := cal_g hf
      refine go_i hH (run_S X hH (rest := []) (c_X7_within N S5 x4 (nI 0) (nI 5) h9) gm_X7_80 rfl hl.1 (rmL_ok (by decide) (by decide)) (Nat.le_of_ble_eq_true rfl) rfl dX7_fewest_25) (fun H locs hH => ?_)
      clear h9
      refine lv_if_eq (tgt := 42) hx hb dX7_fewest_28 (by decide) (fun c0 => ?_) (fun c0 => ?_)
      · replace hf := ite_t c0 hf
        refine lv_bipush (v := (-2 : Int32)) hx hb dX7_fewest_42 (by decide) ?_
        exact r_iret X hH hf dX7_fewest_44
      · replace hf := ite_f c0 hf
        refine lv_iload hx hb dX7_fewest_31 (lv_at hl 5 rfl) ?_
        refine lv_iconst (v := (-1 : Int32)) hx hb dX7_fewest_33 (by decide) ?_
        refine lv_bipush (v := (nI 20)) hx hb dX7_fewest_34 (by decide) ?_
        obtain ⟨r13, S11, h12, hf⟩ := cal_g hf
        refine go_i hH (run_S X hH (rest := []) (c_X7_within N S8 x5 (-1 : Int32) (nI 20) h12) gm_X7_80 rfl hl.1 (rmL_ok (by decide) (by decide)) (Nat.le_of_ble_eq_true rfl) rfl dX7_fewest_36) (fun H locs hH => ?_)
        clear h12
        refine lv_if_ne (tgt := 45) hx hb dX7_fewest_39 (by decide) (fun c0 => ?_) (fun c0 => ?_)
        · replace hf := ite_f c0 hf
          refine lv_aload_n hx hb dX7_fewest_45 rfl (lv_at hl 0 rfl) ?_
          refine lv_iload_n hx hb dX7_fewest_46 rfl (lv_at hl 1 rfl) ?_
          refine lv_iload_n hx hb dX7_fewest_47 rfl (lv_at hl 2 rfl) ?_
          refine lv_iload_n hx hb dX7_fewest_48 rfl (lv_at hl 3 rfl) ?_
          refine lv_iload hx hb dX7_fewest_49 (lv_at hl 4 rfl) ?_
          obtain ⟨r16, S14, h15, hf⟩ := cal_g hf
          refine go_i hH (run_V X hH (rest := []) (c_X7_against N S11 x1 x2 x3 x4 h15) gm_X7_94 (by decide) (e_32 E _) rfl rfl hl.1 (rmL_ok (by decide) (by decide)) (Nat.le_of_ble_eq_true rfl) rfl dX7_fewest_51) (fun H locs hH => ?_)
          clear h15
          refine lv_istore (lv' := [(6, .int r16), (0, .ref (bb E 32)), (1, .int x1), (2, .int x2), (3, .int x3), (4, .int x4), (5, .int x5)]) hx hb dX7_fewest_54 hl (by decide) rfl (fun ls hl => ?_)
          refine lv_iload hx hb dX7_fewest_56 (lv_at hl 0 rfl) ?_
          refine lv_if_eq (tgt := 68) hx hb dX7_fewest_58 (by decide) (fun c0 => ?_) (fun c0 => ?_)
          · replace hf := ite_t c0 hf
            refine lv_bipush (v := (nI 60)) hx hb dX7_fewest_68 (by decide) ?_
            refine lv_iload_n hx hb dX7_fewest_70 rfl (lv_at hl 2 rfl) ?_
            refine lv_imul hx hb dX7_fewest_71 ?_
            refine lv_iload_n hx hb dX7_fewest_72 rfl (lv_at hl 4 rfl) ?_
            refine lv_iadd hx hb dX7_fewest_73 ?_
            refine lv_topi (fun y17 ex => ?_)
            replace hf := bnd_at ex hf
            clear ex
            refine lv_istore (lv' := [(7, .int y17), (6, .int r16), (0, .ref (bb E 32)), (1, .int x1), (2, .int x2), (3, .int x3), (4, .int x4), (5, .int x5)]) hx hb dX7_fewest_74 hl (by decide) rfl (fun ls hl => ?_)
            refine lv_iconst (v := (nI 0)) hx hb dX7_fewest_76 (by decide) ?_
            refine lv_topi (fun y18 ex => ?_)
            replace hf := bnd_at ex hf
            clear ex
            refine lv_istore (lv' := [(8, .int y18), (7, .int y17), (6, .int r16), (0, .ref (bb E 32)), (1, .int x1), (2, .int x2), (3, .int x3), (4, .int x4), (5, .int x5)]) hx hb dX7_fewest_77 hl (by decide) rfl (fun ls hl => ?_)
            exact w_X7_fewest_79 X N N S14 x4 x5 y17 y18 hf _ _ hH _ (lv_sub hl [3, 7, 8, 1, 0] rfl)
          · replace hf := ite_f c0 hf
            refine lv_aload_n hx hb dX7_fewest_61 rfl (lv_at hl 1 rfl) ?_
            refine lv_iload hx hb dX7_fewest_62 (lv_at hl 0 rfl) ?_
            obtain ⟨r21, S19, h20, hf⟩ := cal_g hf
            refine go_i hH (run_V X hH (rest := []) (c_X7_fails N S14 r16 h20) gm_X7_98 (by decide) (e_32 E _) rfl rfl hl.1 (rmL_ok (by decide) (by decide)) (Nat.le_of_ble_eq_true rfl) rfl dX7_fewest_64) (fun H locs hH => ?_)
            clear h20
            exact r_iret X hH hf dX7_fewest_67
        · replace hf := ite_t c0 hf
          refine lv_bipush (v := (-2 : Int32)) hx hb dX7_fewest_42 (by decide) ?_
          exact r_iret X hH hf dX7_fewest_44
  · replace hf := ite_t c0 hf
    refine lv_iconst (v := (-1 : Int32)) hx hb dX7_fewest_12 (by decide) ?_
    exact r_iret X hH hf dX7_fewest_13
theorem c_X7_fewest {l : Launch} {E : Ev} (N : Nat) (S : St) (x1 : Int32) (x2 : Int32) (x3 : Int32) (x4 : Int32) (x5 : Int32) {r : Int32} {S1 : St} (hf : f_X7_fewest N S x1 x2 x3 x4 x5 = some (r, S1)) : Ct l yX7_fewest (.code yX7_fewest cX7_fewest 11 (some .int)) 5 E [.ref (bb E 32), .int x1, .int x2, .int x3, .int x4, .int x5] S (QI E r S1) := by
  refine Ct.of (by decide) (Nat.le_of_ble_eq_true rfl) (fun p e s m below meth c ls X hH hl => ?_)
  exact w_X7_fewest_0 X N S x1 x2 x3 x4 x5 hf _ _ hH _ hl
set_option maxRecDepth 100000 in
set_option maxHeartbeats 4000000 in
theorem w_X7_findPresses_14 {p : Program} {l : Launch} {e : Env} {s : State} {m : MethodId} {args : Array Value} {below : List Frame} {meth : Method} {c : Code} {E : Ev} {r : Unit} {S1 : St} (X : GX p s m meth c args cX7_findPresses 5 none RX7 E) (N : Nat) (k2 : St → Int32 → Option (Unit × St)) (hk2 : ∀ (S : St) (x1 : Int32), k2 S x1 = some (r, S1) → ∀ (H : Heap) (locs : List Loc), HH E S s H locs → ∀ ls : Array Slot, lv_has ls 5 [(0, .ref (bb E 32)), (1, .int x1)] → W p l e (rmL 2) s m args below meth c H locs 0 0 (MQ below (QV E r S1 s.heap.size) args s 0 0 (AA E s.heap.size)) (F0 m 2 ls [])) : ∀ (n : Nat) (S : St) (x1 : Int32) (x2 : Int32) (x3 : Int32), f_X7_findPresses_14 N k2 n S x1 x2 x3 = some (r, S1) → ∀ (H : Heap) (locs : List Loc), HH E S s H locs → ∀ ls : Array Slot, lv_has ls 5 [(0, .ref (bb E 32)), (1, .int x1), (2, .int x2), (3, .int x3)] → W p l e (rmL 2) s m args below meth c H locs 0 0 (MQ below (QV E r S1 s.heap.size) args s 0 0 (AA E s.heap.size)) (F0 m 14 ls []) := by
  have hx := X.1
  have hb := X.2.1
  intro n
  induction n with
  | zero =>
    intro S x1 x2 x3 hf
    cases hf
  | succ n ih =>
    intro S x1 x2 x3 hf H locs hH ls hl
    rw [f_X7_findPresses_14] at hf
    refine lv_iload_n hx hb dX7_findPresses_14 rfl (lv_at hl 3 rfl) ?_
    refine lv_aload_n hx hb dX7_findPresses_15 rfl (lv_at hl 0 rfl) ?_
    refine fg_X7_25 X hH dX7_findPresses_16 ?_
    refine lv_iload_n hx hb dX7_findPresses_19 rfl (lv_at hl 1 rfl) ?_
    obtain ⟨g, hf⟩ := ite_g hf
    refine r_iald X hH (a_38 E) g dX7_findPresses_20 ?_
    refine lv_icmp_ge (tgt := 66) hx hb dX7_findPresses_21 (by decide) (fun c0 => ?_) (fun c0 => ?_)
    · replace hf := ite_t c0 hf
      refine lv_aload_n hx hb dX7_findPresses_66 rfl (lv_at hl 0 rfl) ?_
      refine fg_X7_43 X hH dX7_findPresses_67 ?_
      refine lv_iload_n hx hb dX7_findPresses_70 rfl (lv_at hl 1 rfl) ?_
      refine lv_aload_n hx hb dX7_findPresses_71 rfl (lv_at hl 0 rfl) ?_
      refine lv_iload_n hx hb dX7_findPresses_72 rfl (lv_at hl 1 rfl) ?_
      obtain ⟨r3, S1, h2, hf⟩ := cal_g hf
      refine go_i hH (run_V X hH (rest := [.int x1, .ref (bb E 44)]) (c_X7_oftenOf N S x1 h2) gm_X7_131 (by decide) (e_32 E _) rfl rfl hl.1 (rmL_ok (by decide) (by decide)) (Nat.le_of_ble_eq_true rfl) rfl dX7_findPresses_73) (fun H locs hH => ?_)
      clear h2
      refine lv_iload_n hx hb dX7_findPresses_76 rfl (lv_at hl 2 rfl) ?_
      refine lv_imul hx hb dX7_findPresses_77 ?_
      obtain ⟨g, hf⟩ := ite_g hf
      refine r_iast X hH (a_44 E) g dX7_findPresses_78 (fun H locs hH => ?_)
      obtain ⟨S4, ex, hf⟩ := bnd_go hf
      replace hH := HH_eq ex hH
      clear ex
      obtain ⟨y5, ex, hf⟩ := bnd_go hf
      refine lv_iinc (v := y5) (lv' := [(1, .int y5), (0, .ref (bb E 32)), (2, .int x2), (3, .int x3)]) hx hb dX7_findPresses_79 hl (k := 1) rfl (by rw [ex]; rfl) (by decide) rfl (fun ls hl => ?_)
      clear ex
      refine lv_goto (tgt := 2) hx hb dX7_findPresses_82 (by decide) ?_
      exact hk2 S4 y5 hf _ _ hH _ (lv_sub hl [1, 0] rfl)
    · replace hf := ite_f c0 hf
      refine lv_aload_n hx hb dX7_findPresses_24 rfl (lv_at hl 0 rfl) ?_
      refine fg_X7_28 X hH dX7_findPresses_25 ?_
      refine lv_iconst (v := (nI 4)) hx hb dX7_findPresses_28 (by decide) ?_
      refine lv_iload_n hx hb dX7_findPresses_29 rfl (lv_at hl 1 rfl) ?_
      refine lv_imul hx hb dX7_findPresses_30 ?_
      refine lv_iload_n hx hb dX7_findPresses_31 rfl (lv_at hl 3 rfl) ?_
      refine lv_iadd hx hb dX7_findPresses_32 ?_
      obtain ⟨g, hf⟩ := ite_g hf
      refine r_iald X hH (a_39 E) g dX7_findPresses_33 ?_
      refine lv_topi (fun y6 ex => ?_)
      replace hf := bnd_at ex hf
      clear ex
      refine lv_istore (lv' := [(4, .int y6), (0, .ref (bb E 32)), (1, .int x1), (2, .int x2), (3, .int x3)]) hx hb dX7_findPresses_34 hl (by decide) rfl (fun ls hl => ?_)
      refine lv_iload_n hx hb dX7_findPresses_36 rfl (lv_at hl 3 rfl) ?_
      refine lv_iload hx hb dX7_findPresses_37 (lv_at hl 0 rfl) ?_
      refine lv_bipush (v := (nI 8)) hx hb dX7_findPresses_39 (by decide) ?_
      refine lv_icmp_ge (tgt := 48) hx hb dX7_findPresses_41 (by decide) (fun c0 => ?_) (fun c0 => ?_)
      · replace hf := ite_t c0 hf
        refine lv_aload_n hx hb dX7_findPresses_48 rfl (lv_at hl 1 rfl) ?_
        refine fg_X7_43 X hH dX7_findPresses_49 ?_
        refine lv_iload hx hb dX7_findPresses_52 (lv_at hl 0 rfl) ?_
        refine lv_bipush (v := (nI 8)) hx hb dX7_findPresses_54 (by decide) ?_
        refine lv_isub hx hb dX7_findPresses_56 ?_
        obtain ⟨g, hf⟩ := ite_g hf
        refine r_iald X hH (a_44 E) g dX7_findPresses_57 ?_
        refine lv_iadd hx hb dX7_findPresses_58 ?_
        refine lv_topi (fun y7 ex => ?_)
        replace hf := bnd_at ex hf
        clear ex
        refine lv_istore_n (lv' := [(2, .int y7), (4, .int y6), (0, .ref (bb E 32)), (1, .int x1), (3, .int x3)]) hx hb dX7_findPresses_59 rfl hl (by decide) rfl (fun ls hl => ?_)
        obtain ⟨y8, ex, hf⟩ := bnd_go hf
        refine lv_iinc (v := y8) (lv' := [(3, .int y8), (2, .int y7), (4, .int y6), (0, .ref (bb E 32)), (1, .int x1)]) hx hb dX7_findPresses_60 hl (k := 4) rfl (by rw [ex]; rfl) (by decide) rfl (fun ls hl => ?_)
        clear ex
        refine lv_goto (tgt := 14) hx hb dX7_findPresses_63 (by decide) ?_
        exact ih S x1 y7 y8 hf _ _ hH _ (lv_sub hl [3, 4, 1, 0] rfl)
      · replace hf := ite_f c0 hf
        refine lv_iconst (v := (nI 1)) hx hb dX7_findPresses_44 (by decide) ?_
        refine lv_goto (tgt := 58) hx hb dX7_findPresses_45 (by decide) ?_
        refine lv_iadd hx hb dX7_findPresses_58 ?_
        refine lv_topi (fun y9 ex => ?_)
        replace hf := bnd_at ex hf
        clear ex
        refine lv_istore_n (lv' := [(2, .int y9), (4, .int y6), (0, .ref (bb E 32)), (1, .int x1), (3, .int x3)]) hx hb dX7_findPresses_59 rfl hl (by decide) rfl (fun ls hl => ?_)
        obtain ⟨y10, ex, hf⟩ := bnd_go hf
        refine lv_iinc (v := y10) (lv' := [(3, .int y10), (2, .int y9), (4, .int y6), (0, .ref (bb E 32)), (1, .int x1)]) hx hb dX7_findPresses_60 hl (k := 4) rfl (by rw [ex]; rfl) (by decide) rfl (fun ls hl => ?_)
        clear ex
        refine lv_goto (tgt := 14) hx hb dX7_findPresses_63 (by decide) ?_
        exact ih S x1 y9 y10 hf _ _ hH _ (lv_sub hl [3, 4, 1, 0] rfl)
set_option maxRecDepth 100000 in
set_option maxHeartbeats 4000000 in
theorem w_X7_findPresses_2 {p : Program} {l : Launch} {e : Env} {s : State} {m : MethodId} {args : Array Value} {below : List Frame} {meth : Method} {c : Code} {E : Ev} {r : Unit} {S1 : St} (X : GX p s m meth c args cX7_findPresses 5 none RX7 E) (N : Nat) : ∀ (n : Nat) (S : St) (x1 : Int32), f_X7_findPresses_2 N n S x1 = some (r, S1) → ∀ (H : Heap) (locs : List Loc), HH E S s H locs → ∀ ls : Array Slot, lv_has ls 5 [(0, .ref (bb E 32)), (1, .int x1)] → W p l e (rmL 2) s m args below meth c H locs 0 0 (MQ below (QV E r S1 s.heap.size) args s 0 0 (AA E s.heap.size)) (F0 m 2 ls []) := by
  have hx := X.1
  have hb := X.2.1
  intro n
  induction n with
  | zero =>
    intro S x1 hf
    cases hf
  | succ n ih =>
    intro S x1 hf H locs hH ls hl
    rw [f_X7_findPresses_2] at hf
    refine lv_iload_n hx hb dX7_findPresses_2 rfl (lv_at hl 1 rfl) ?_
    refine lv_aload_n hx hb dX7_findPresses_3 rfl (lv_at hl 0 rfl) ?_
    refine fg_X7_84 X hH dX7_findPresses_4 ?_
    refine lv_icmp_ge (tgt := 85) hx hb dX7_findPresses_7 (by decide) (fun c0 => ?_) (fun c0 => ?_)
    · replace hf := ite_t c0 hf
      exact r_vret X hH hf dX7_findPresses_85
    · replace hf := ite_f c0 hf
      refine lv_iconst (v := (nI 0)) hx hb dX7_findPresses_10 (by decide) ?_
      refine lv_topi (fun y1 ex => ?_)
      replace hf := bnd_at ex hf
      clear ex
      refine lv_istore_n (lv' := [(2, .int y1), (0, .ref (bb E 32)), (1, .int x1)]) hx hb dX7_findPresses_11 rfl hl (by decide) rfl (fun ls hl => ?_)
      refine lv_iconst (v := (nI 0)) hx hb dX7_findPresses_12 (by decide) ?_
      refine lv_topi (fun y2 ex => ?_)
      replace hf := bnd_at ex hf
      clear ex
      refine lv_istore_n (lv' := [(3, .int y2), (2, .int y1), (0, .ref (bb E 32)), (1, .int x1)]) hx hb dX7_findPresses_13 rfl hl (by decide) rfl (fun ls hl => ?_)
      exact w_X7_findPresses_14 X N (f_X7_findPresses_2 N n) ih N S x1 y1 y2 hf _ _ hH _ (lv_sub hl [2, 3, 1, 0] rfl)
set_option maxRecDepth 100000 in
set_option maxHeartbeats 4000000 in
theorem w_X7_findPresses_0 {p : Program} {l : Launch} {e : Env} {s : State} {m : MethodId} {args : Array Value} {below : List Frame} {meth : Method} {c : Code} {E : Ev} {r : Unit} {S1 : St} (X : GX p s m meth c args cX7_findPresses 5 none RX7 E) (N : Nat) : ∀ (S : St), f_X7_findPresses N S = some (r, S1) → ∀ (H : Heap) (locs : List Loc), HH E S s H locs → ∀ ls : Array Slot, lv_has ls 5 [(0, .ref (bb E 32))] → W p l e (rmL 2) s m args below meth c H locs 0 0 (MQ below (QV E r S1 s.heap.size) args s 0 0 (AA E s.heap.size)) (F0 m 0 ls []) := by
  have hx := X.1
  have hb := X.2.1
  intro S hf H locs hH ls hl
  rw [f_X7_findPresses] at hf
  refine lv_iconst (v := (nI 0)) hx hb dX7_findPresses_0 (by decide) ?_
  refine lv_topi (fun y1 ex => ?_)
  replace hf := bnd_at ex hf
  clear ex
  refine lv_istore_n (lv' := [(1, .int y1), (0, .ref (bb E 32))]) hx hb dX7_findPresses_1 rfl hl (by decide) rfl (fun ls hl => ?_)
  exact w_X7_findPresses_2 X N N S y1 hf _ _ hH _ (lv_sub hl [1, 0] rfl)
theorem c_X7_findPresses {l : Launch} {E : Ev} (N : Nat) (S : St) {r : Unit} {S1 : St} (hf : f_X7_findPresses N S = some (r, S1)) : Ct l yX7_findPresses (.code yX7_findPresses cX7_findPresses 5 none) 2 E [.ref (bb E 32)] S (QV E r S1) := by
  refine Ct.of (by decide) (Nat.le_of_ble_eq_true rfl) (fun p e s m below meth c ls X hH hl => ?_)
  exact w_X7_findPresses_0 X N S hf _ _ hH _ hl
set_option maxRecDepth 100000 in
set_option maxHeartbeats 4000000 in
theorem w_X7_goRow_21 {p : Program} {l : Launch} {e : Env} {s : State} {m : MethodId} {args : Array Value} {below : List Frame} {meth : Method} {c : Code} {E : Ev} {r : Unit} {S1 : St} (X : GX p s m meth c args cX7_goRow 5 none RX7 E) (N : Nat) : ∀ (n : Nat) (S : St) (x1 : Int32) (x2 : Int32) (x3 : Int32), f_X7_goRow_21 N n S x1 x2 x3 = some (r, S1) → ∀ (H : Heap) (locs : List Loc), HH E S s H locs → ∀ ls : Array Slot, lv_has ls 5 [(0, .ref (bb E 32)), (1, .int x1), (2, .int x2), (3, .int x3)] → W p l e (rmL 5) s m args below meth c H locs 0 0 (MQ below (QV E r S1 s.heap.size) args s 0 0 (AA E s.heap.size)) (F0 m 21 ls []) := by
  have hx := X.1
  have hb := X.2.1
  intro n
  induction n with
  | zero =>
    intro S x1 x2 x3 hf
    cases hf
  | succ n ih =>
    intro S x1 x2 x3 hf H locs hH ls hl
    rw [f_X7_goRow_21] at hf
    refine lv_iload_n hx hb dX7_goRow_21 rfl (lv_at hl 3 rfl) ?_
    refine lv_iload_n hx hb dX7_goRow_22 rfl (lv_at hl 2 rfl) ?_
    refine lv_icmp_ge (tgt := 84) hx hb dX7_goRow_23 (by decide) (fun c0 => ?_) (fun c0 => ?_)
    · replace hf := ite_t c0 hf
      exact r_vret X hH hf dX7_goRow_84
    · replace hf := ite_f c0 hf
      refine lv_aload_n hx hb dX7_goRow_26 rfl (lv_at hl 0 rfl) ?_
      refine fg_X7_16 X hH dX7_goRow_27 ?_
      refine lv_iload_n hx hb dX7_goRow_30 rfl (lv_at hl 1 rfl) ?_
      refine lv_iload_n hx hb dX7_goRow_31 rfl (lv_at hl 3 rfl) ?_
      refine lv_iadd hx hb dX7_goRow_32 ?_
      obtain ⟨g, hf⟩ := ite_g hf
      refine r_iald X hH (a_35 E) g dX7_goRow_33 ?_
      refine lv_topi (fun y1 ex => ?_)
      replace hf := bnd_at ex hf
      clear ex
      refine lv_istore (lv' := [(4, .int y1), (0, .ref (bb E 32)), (1, .int x1), (2, .int x2), (3, .int x3)]) hx hb dX7_goRow_34 hl (by decide) rfl (fun ls hl => ?_)
      refine lv_iload hx hb dX7_goRow_36 (lv_at hl 0 rfl) ?_
      refine lv_bipush (v := (nI 8)) hx hb dX7_goRow_38 (by decide) ?_
      refine lv_icmp_lt (tgt := 55) hx hb dX7_goRow_40 (by decide) (fun c0 => ?_) (fun c0 => ?_)
      · replace hf := ite_t c0 hf
        refine lv_aload_n hx hb dX7_goRow_55 rfl (lv_at hl 1 rfl) ?_
        refine lv_iload hx hb dX7_goRow_56 (lv_at hl 0 rfl) ?_
        obtain ⟨r4, S2, h3, hf⟩ := cal_g hf
        refine go_i hH (run_V X hH (rest := []) (c_X7_presses N S y1 h3) gm_X7_162 (by decide) (e_32 E _) rfl rfl hl.1 (rmL_ok (by decide) (by decide)) (Nat.le_of_ble_eq_true rfl) rfl dX7_goRow_58) (fun H locs hH => ?_)
        clear h3
        refine lv_if_ne (tgt := 78) hx hb dX7_goRow_61 (by decide) (fun c0 => ?_) (fun c0 => ?_)
        · replace hf := ite_f c0 hf
          obtain ⟨y5, ex, hf⟩ := bnd_go hf
          refine lv_iinc (v := y5) (lv' := [(3, .int y5), (4, .int y1), (0, .ref (bb E 32)), (1, .int x1), (2, .int x2)]) hx hb dX7_goRow_78 hl (k := 4) rfl (by rw [ex]; rfl) (by decide) rfl (fun ls hl => ?_)
          clear ex
          refine lv_goto (tgt := 21) hx hb dX7_goRow_81 (by decide) ?_
          exact ih S2 x1 x2 y5 hf _ _ hH _ (lv_sub hl [2, 3, 4, 0] rfl)
        · replace hf := ite_t c0 hf
          refine lv_aload_n hx hb dX7_goRow_64 rfl (lv_at hl 1 rfl) ?_
          refine fg_X7_176 X hH dX7_goRow_65 ?_
          refine lv_bipush (v := (-9 : Int32)) hx hb dX7_goRow_68 (by decide) ?_
          refine lv_icmp_ne (tgt := 78) hx hb dX7_goRow_70 (by decide) (fun c0 => ?_) (fun c0 => ?_)
          · replace hf := ite_f c0 hf
            obtain ⟨y6, ex, hf⟩ := bnd_go hf
            refine lv_iinc (v := y6) (lv' := [(3, .int y6), (4, .int y1), (0, .ref (bb E 32)), (1, .int x1), (2, .int x2)]) hx hb dX7_goRow_78 hl (k := 4) rfl (by rw [ex]; rfl) (by decide) rfl (fun ls hl => ?_)
            clear ex
            refine lv_goto (tgt := 21) hx hb dX7_goRow_81 (by decide) ?_
            exact ih S2 x1 x2 y6 hf _ _ hH _ (lv_sub hl [2, 3, 4, 0] rfl)
          · replace hf := ite_t c0 hf
            refine lv_aload_n hx hb dX7_goRow_73 rfl (lv_at hl 1 rfl) ?_
            refine lv_iload_n hx hb dX7_goRow_74 rfl (lv_at hl 4 rfl) ?_
            refine fp_X7_176 X hH dX7_goRow_75 (fun H locs hH => ?_)
            obtain ⟨S7, ex, hf⟩ := bnd_go hf
            replace hH := HH_eq ex hH
            clear ex
            obtain ⟨y8, ex, hf⟩ := bnd_go hf
            refine lv_iinc (v := y8) (lv' := [(3, .int y8), (4, .int y1), (0, .ref (bb E 32)), (1, .int x1), (2, .int x2)]) hx hb dX7_goRow_78 hl (k := 4) rfl (by rw [ex]; rfl) (by decide) rfl (fun ls hl => ?_)
            clear ex
            refine lv_goto (tgt := 21) hx hb dX7_goRow_81 (by decide) ?_
            exact ih S7 x1 x2 y8 hf _ _ hH _ (lv_sub hl [2, 3, 4, 0] rfl)
      · replace hf := ite_f c0 hf
        refine lv_aload_n hx hb dX7_goRow_43 rfl (lv_at hl 1 rfl) ?_
        refine lv_iload hx hb dX7_goRow_44 (lv_at hl 0 rfl) ?_
        refine lv_bipush (v := (nI 8)) hx hb dX7_goRow_46 (by decide) ?_
        refine lv_isub hx hb dX7_goRow_48 ?_
        obtain ⟨_, S9, h10, hf⟩ := cal_g hf
        refine go_v hH (run_V X hH (rest := []) (c_X7_plays N S (y1 - (nI 8)) h10) gm_X7_173 (by decide) (e_32 E _) rfl rfl hl.1 (rmL_ok (by decide) (by decide)) (Nat.le_of_ble_eq_true rfl) rfl dX7_goRow_49) (fun H locs hH => ?_)
        clear h10
        refine lv_goto (tgt := 78) hx hb dX7_goRow_52 (by decide) ?_
        obtain ⟨y12, ex, hf⟩ := bnd_go hf
        refine lv_iinc (v := y12) (lv' := [(3, .int y12), (4, .int y1), (0, .ref (bb E 32)), (1, .int x1), (2, .int x2)]) hx hb dX7_goRow_78 hl (k := 4) rfl (by rw [ex]; rfl) (by decide) rfl (fun ls hl => ?_)
        clear ex
        refine lv_goto (tgt := 21) hx hb dX7_goRow_81 (by decide) ?_
        exact ih S9 x1 x2 y12 hf _ _ hH _ (lv_sub hl [2, 3, 4, 0] rfl)
set_option maxRecDepth 100000 in
set_option maxHeartbeats 4000000 in
theorem w_X7_goRow_0 {p : Program} {l : Launch} {e : Env} {s : State} {m : MethodId} {args : Array Value} {below : List Frame} {meth : Method} {c : Code} {E : Ev} {r : Unit} {S1 : St} (X : GX p s m meth c args cX7_goRow 5 none RX7 E) (N : Nat) : ∀ (S : St) (x1 : Int32) (x2 : Int32), f_X7_goRow N S x1 x2 = some (r, S1) → ∀ (H : Heap) (locs : List Loc), HH E S s H locs → ∀ ls : Array Slot, lv_has ls 5 [(0, .ref (bb E 32)), (1, .int x1), (2, .int x2)] → W p l e (rmL 5) s m args below meth c H locs 0 0 (MQ below (QV E r S1 s.heap.size) args s 0 0 (AA E s.heap.size)) (F0 m 0 ls []) := by
  have hx := X.1
  have hb := X.2.1
  intro S x1 x2 hf H locs hH ls hl
  rw [f_X7_goRow] at hf
  refine lv_aload_n hx hb dX7_goRow_0 rfl (lv_at hl 0 rfl) ?_
  refine lv_aload_n hx hb dX7_goRow_1 rfl (lv_at hl 0 rfl) ?_
  refine fg_X7_111 X hH dX7_goRow_2 ?_
  obtain ⟨_, S1, h2, hf⟩ := cal_g hf
  refine go_v hH (run_V X hH (rest := []) (c_X7_workOn N S (S 32 7) h2) gm_X7_165 (by decide) (e_32 E _) rfl rfl hl.1 (rmL_ok (by decide) (by decide)) (Nat.le_of_ble_eq_true rfl) rfl dX7_goRow_5) (fun H locs hH => ?_)
  clear h2
  refine lv_aload_n hx hb dX7_goRow_8 rfl (lv_at hl 0 rfl) ?_
  refine lv_iconst (v := (nI 0)) hx hb dX7_goRow_9 (by decide) ?_
  refine fp_X7_159 X hH dX7_goRow_10 (fun H locs hH => ?_)
  obtain ⟨S4, ex, hf⟩ := bnd_go hf
  replace hH := HH_eq ex hH
  clear ex
  refine lv_aload_n hx hb dX7_goRow_13 rfl (lv_at hl 0 rfl) ?_
  refine lv_bipush (v := (-9 : Int32)) hx hb dX7_goRow_14 (by decide) ?_
  refine fp_X7_176 X hH dX7_goRow_16 (fun H locs hH => ?_)
  obtain ⟨S5, ex, hf⟩ := bnd_go hf
  replace hH := HH_eq ex hH
  clear ex
  refine lv_iconst (v := (nI 0)) hx hb dX7_goRow_19 (by decide) ?_
  refine lv_topi (fun y6 ex => ?_)
  replace hf := bnd_at ex hf
  clear ex
  refine lv_istore_n (lv' := [(3, .int y6), (0, .ref (bb E 32)), (1, .int x1), (2, .int x2)]) hx hb dX7_goRow_20 rfl hl (by decide) rfl (fun ls hl => ?_)
  exact w_X7_goRow_21 X N N S5 x1 x2 y6 hf _ _ hH _ (lv_sub hl [1, 2, 3, 0] rfl)
theorem c_X7_goRow {l : Launch} {E : Ev} (N : Nat) (S : St) (x1 : Int32) (x2 : Int32) {r : Unit} {S1 : St} (hf : f_X7_goRow N S x1 x2 = some (r, S1)) : Ct l yX7_goRow (.code yX7_goRow cX7_goRow 5 none) 5 E [.ref (bb E 32), .int x1, .int x2] S (QV E r S1) := by
  refine Ct.of (by decide) (Nat.le_of_ble_eq_true rfl) (fun p e s m below meth c ls X hH hl => ?_)
  exact w_X7_goRow_0 X N S x1 x2 hf _ _ hH _ hl
set_option maxRecDepth 100000 in
set_option maxHeartbeats 4000000 in
theorem w_X7_inLeastTerms_6 {p : Program} {l : Launch} {e : Env} {s : State} {m : MethodId} {args : Array Value} {below : List Frame} {meth : Method} {c : Code} {E : Ev} {r : Int64} {S1 : St} (X : GX p s m meth c args cX7_inLeastTerms 11 (some .long) RX7 E) (N : Nat) : ∀ (n : Nat) (S : St) (x0 : Int64) (x2 : Int64) (x4 : Int32) (x5 : Int64) (x7 : Int64), f_X7_inLeastTerms_6 N n S x0 x2 x4 x5 x7 = some (r, S1) → ∀ (H : Heap) (locs : List Loc), HH E S s H locs → ∀ ls : Array Slot, lv_has ls 11 [(0, .long x0), (2, .long x2), (4, .int x4), (5, .long x5), (7, .long x7)] → W p l e (rmL 1) s m args below meth c H locs 0 0 (MQ below (QL E r S1 s.heap.size) args s 0 0 (AA E s.heap.size)) (F0 m 6 ls []) := by
  have hx := X.1
  have hb := X.2.1
  intro n
  induction n with
  | zero =>
    intro S x0 x2 x4 x5 x7 hf
    cases hf
  | succ n ih =>
    intro S x0 x2 x4 x5 x7 hf H locs hH ls hl
    rw [f_X7_inLeastTerms_6] at hf
    refine lv_lload hx hb dX7_inLeastTerms_6 (lv_at hl 4 rfl) ?_
    refine lv_lconst (v := (0 : Int64)) hx hb dX7_inLeastTerms_8 (by decide) ?_
    refine W.lcmp hx hb dX7_inLeastTerms_9 ?_
    refine lv_if_eq (tgt := 31) hx hb dX7_inLeastTerms_10 (by decide) (fun c0 => ?_) (fun c0 => ?_)
    · replace hf := ite_t c0 hf
      refine lv_iload hx hb dX7_inLeastTerms_31 (lv_at hl 2 rfl) ?_
      refine lv_if_ne (tgt := 43) hx hb dX7_inLeastTerms_33 (by decide) (fun c0 => ?_) (fun c0 => ?_)
      · replace hf := ite_f c0 hf
        refine lv_lload_n hx hb dX7_inLeastTerms_43 rfl (lv_at hl 1 rfl) ?_
        refine lv_lload hx hb dX7_inLeastTerms_44 (lv_at hl 3 rfl) ?_
        obtain ⟨g, hf⟩ := ite_g hf
        refine lv_ldiv hx hb dX7_inLeastTerms_46 g ?_
        exact r_lret X hH hf dX7_inLeastTerms_47
      · replace hf := ite_t c0 hf
        refine lv_lload_n hx hb dX7_inLeastTerms_36 rfl (lv_at hl 0 rfl) ?_
        refine lv_lload hx hb dX7_inLeastTerms_37 (lv_at hl 3 rfl) ?_
        obtain ⟨g, hf⟩ := ite_g hf
        refine lv_ldiv hx hb dX7_inLeastTerms_39 g ?_
        refine lv_goto (tgt := 47) hx hb dX7_inLeastTerms_40 (by decide) ?_
        exact r_lret X hH hf dX7_inLeastTerms_47
    · replace hf := ite_f c0 hf
      refine lv_lload hx hb dX7_inLeastTerms_13 (lv_at hl 3 rfl) ?_
      refine lv_lload hx hb dX7_inLeastTerms_15 (lv_at hl 4 rfl) ?_
      obtain ⟨g, hf⟩ := ite_g hf
      refine lv_lrem hx hb dX7_inLeastTerms_17 g ?_
      refine lv_topl (fun y1 ex => ?_)
      replace hf := bnd_at ex hf
      clear ex
      refine lv_lstore (lv' := [(9, .long y1), (0, .long x0), (2, .long x2), (4, .int x4), (5, .long x5), (7, .long x7)]) hx hb dX7_inLeastTerms_18 hl (by decide) rfl (fun ls hl => ?_)
      refine lv_lload hx hb dX7_inLeastTerms_20 (lv_at hl 5 rfl) ?_
      refine lv_lstore (lv' := [(5, .long x7), (9, .long y1), (0, .long x0), (2, .long x2), (4, .int x4), (7, .long x7)]) hx hb dX7_inLeastTerms_22 hl (by decide) rfl (fun ls hl => ?_)
      refine lv_lload hx hb dX7_inLeastTerms_24 (lv_at hl 1 rfl) ?_
      refine lv_lstore (lv' := [(7, .long y1), (5, .long x7), (9, .long y1), (0, .long x0), (2, .long x2), (4, .int x4)]) hx hb dX7_inLeastTerms_26 hl (by decide) rfl (fun ls hl => ?_)
      refine lv_goto (tgt := 6) hx hb dX7_inLeastTerms_28 (by decide) ?_
      exact ih S x0 x2 x4 x7 y1 hf _ _ hH _ (lv_sub hl [3, 4, 5, 1, 0] rfl)
set_option maxRecDepth 100000 in
set_option maxHeartbeats 4000000 in
theorem w_X7_inLeastTerms_0 {p : Program} {l : Launch} {e : Env} {s : State} {m : MethodId} {args : Array Value} {below : List Frame} {meth : Method} {c : Code} {E : Ev} {r : Int64} {S1 : St} (X : GX p s m meth c args cX7_inLeastTerms 11 (some .long) RX7 E) (N : Nat) : ∀ (S : St) (x0 : Int64) (x2 : Int64) (x4 : Int32), f_X7_inLeastTerms N S x0 x2 x4 = some (r, S1) → ∀ (H : Heap) (locs : List Loc), HH E S s H locs → ∀ ls : Array Slot, lv_has ls 11 [(0, .long x0), (2, .long x2), (4, .int x4)] → W p l e (rmL 1) s m args below meth c H locs 0 0 (MQ below (QL E r S1 s.heap.size) args s 0 0 (AA E s.heap.size)) (F0 m 0 ls []) := by
  have hx := X.1
  have hb := X.2.1
  intro S x0 x2 x4 hf H locs hH ls hl
  rw [f_X7_inLeastTerms] at hf
  refine lv_lload_n hx hb dX7_inLeastTerms_0 rfl (lv_at hl 0 rfl) ?_
  refine lv_lstore (lv' := [(5, .long x0), (0, .long x0), (2, .long x2), (4, .int x4)]) hx hb dX7_inLeastTerms_1 hl (by decide) rfl (fun ls hl => ?_)
  refine lv_lload_n hx hb dX7_inLeastTerms_3 rfl (lv_at hl 2 rfl) ?_
  refine lv_lstore (lv' := [(7, .long x2), (5, .long x0), (0, .long x0), (2, .long x2), (4, .int x4)]) hx hb dX7_inLeastTerms_4 hl (by decide) rfl (fun ls hl => ?_)
  exact w_X7_inLeastTerms_6 X N N S x0 x2 x4 x0 x2 hf _ _ hH _ (lv_sub hl [2, 3, 4, 1, 0] rfl)
theorem c_X7_inLeastTerms {l : Launch} {E : Ev} (N : Nat) (S : St) (x0 : Int64) (x2 : Int64) (x4 : Int32) {r : Int64} {S1 : St} (hf : f_X7_inLeastTerms N S x0 x2 x4 = some (r, S1)) : Ct l yX7_inLeastTerms (.code yX7_inLeastTerms cX7_inLeastTerms 11 (some .long)) 1 E [.long x0, .long x2, .int x4] S (QL E r S1) := by
  refine Ct.of (by decide) (Nat.le_of_ble_eq_true rfl) (fun p e s m below meth c ls X hH hl => ?_)
  exact w_X7_inLeastTerms_0 X N S x0 x2 x4 hf _ _ hH _ hl
set_option maxRecDepth 100000 in
set_option maxHeartbeats 4000000 in
theorem w_X7_isKey_0 {p : Program} {l : Launch} {e : Env} {s : State} {m : MethodId} {args : Array Value} {below : List Frame} {meth : Method} {c : Code} {E : Ev} {r : Int32} {S1 : St} (X : GX p s m meth c args cX7_isKey 2 (some .boolean) RX7 E) (N : Nat) : ∀ (S : St) (x1 : Int32), f_X7_isKey N S x1 = some (r, S1) → ∀ (H : Heap) (locs : List Loc), HH E S s H locs → ∀ ls : Array Slot, lv_has ls 2 [(0, .ref (bb E 32)), (1, .int x1)] → W p l e (rmL 2) s m args below meth c H locs 0 0 (MQ below (QI E r S1 s.heap.size) args s 0 0 (AA E s.heap.size)) (F0 m 0 ls []) := by
  have hx := X.1
  have hb := X.2.1
  intro S x1 hf H locs hH ls hl
  rw [f_X7_isKey] at hf
  refine lv_iload_n hx hb dX7_isKey_0 rfl (lv_at hl 1 rfl) ?_
  refine lv_if_lt (tgt := 16) hx hb dX7_isKey_1 (by decide) (fun c0 => ?_) (fun c0 => ?_)
  · replace hf := ite_t c0 hf
    refine lv_iconst (v := (nI 0)) hx hb dX7_isKey_16 (by decide) ?_
    exact r_zret X hH (by decide) hf dX7_isKey_17
  · replace hf := ite_f c0 hf
    refine lv_iload_n hx hb dX7_isKey_4 rfl (lv_at hl 1 rfl) ?_
    refine lv_aload_n hx hb dX7_isKey_5 rfl (lv_at hl 0 rfl) ?_
    obtain ⟨r3, S1, h2, hf⟩ := cal_g hf
    refine go_i hH (run_V X hH (rest := [.int x1]) (c_X7_keysThere N S h2) gm_X7_186 (by decide) (e_32 E _) rfl rfl hl.1 (rmL_ok (by decide) (by decide)) (Nat.le_of_ble_eq_true rfl) rfl dX7_isKey_6) (fun H locs hH => ?_)
    clear h2
    refine lv_icmp_ge (tgt := 16) hx hb dX7_isKey_9 (by decide) (fun c0 => ?_) (fun c0 => ?_)
    · replace hf := ite_t c0 hf
      refine lv_iconst (v := (nI 0)) hx hb dX7_isKey_16 (by decide) ?_
      exact r_zret X hH (by decide) hf dX7_isKey_17
    · replace hf := ite_f c0 hf
      refine lv_iconst (v := (nI 1)) hx hb dX7_isKey_12 (by decide) ?_
      refine lv_goto (tgt := 17) hx hb dX7_isKey_13 (by decide) ?_
      exact r_zret X hH (by decide) hf dX7_isKey_17
theorem c_X7_isKey {l : Launch} {E : Ev} (N : Nat) (S : St) (x1 : Int32) {r : Int32} {S1 : St} (hf : f_X7_isKey N S x1 = some (r, S1)) : Ct l yX7_isKey (.code yX7_isKey cX7_isKey 2 (some .boolean)) 2 E [.ref (bb E 32), .int x1] S (QI E r S1) := by
  refine Ct.of (by decide) (Nat.le_of_ble_eq_true rfl) (fun p e s m below meth c ls X hH hl => ?_)
  exact w_X7_isKey_0 X N S x1 hf _ _ hH _ hl
set_option maxRecDepth 100000 in
set_option maxHeartbeats 4000000 in
theorem w_X7_key_0 {p : Program} {l : Launch} {e : Env} {s : State} {m : MethodId} {args : Array Value} {below : List Frame} {meth : Method} {c : Code} {E : Ev} {r : Int32} {S1 : St} (X : GX p s m meth c args cX7_key 3 (some .int) RX7 E) (N : Nat) : ∀ (S : St) (x1 : Int32) (x2 : Int32), f_X7_key N S x1 x2 = some (r, S1) → ∀ (H : Heap) (locs : List Loc), HH E S s H locs → ∀ ls : Array Slot, lv_has ls 3 [(0, .ref (bb E 32)), (1, .int x1), (2, .int x2)] → W p l e (rmL 2) s m args below meth c H locs 0 0 (MQ below (QI E r S1 s.heap.size) args s 0 0 (AA E s.heap.size)) (F0 m 0 ls []) := by
  have hx := X.1
  have hb := X.2.1
  intro S x1 x2 hf H locs hH ls hl
  rw [f_X7_key] at hf
  refine lv_aload_n hx hb dX7_key_0 rfl (lv_at hl 0 rfl) ?_
  refine lv_iload_n hx hb dX7_key_1 rfl (lv_at hl 1 rfl) ?_
  obtain ⟨r3, S1, h2, hf⟩ := cal_g hf
  refine go_i hH (run_V X hH (rest := []) (c_X7_isMacro N S x1 h2) gm_X7_134 (by decide) (e_32 E _) rfl rfl hl.1 (rmL_ok (by decide) (by decide)) (Nat.le_of_ble_eq_true rfl) rfl dX7_key_2) (fun H locs hH => ?_)
  clear h2
  refine lv_if_eq (tgt := 35) hx hb dX7_key_5 (by decide) (fun c0 => ?_) (fun c0 => ?_)
  · replace hf := ite_t c0 hf
    refine lv_iconst (v := (-1 : Int32)) hx hb dX7_key_35 (by decide) ?_
    exact r_iret X hH hf dX7_key_36
  · replace hf := ite_f c0 hf
    refine lv_iload_n hx hb dX7_key_8 rfl (lv_at hl 2 rfl) ?_
    refine lv_if_lt (tgt := 35) hx hb dX7_key_9 (by decide) (fun c0 => ?_) (fun c0 => ?_)
    · replace hf := ite_t c0 hf
      refine lv_iconst (v := (-1 : Int32)) hx hb dX7_key_35 (by decide) ?_
      exact r_iret X hH hf dX7_key_36
    · replace hf := ite_f c0 hf
      refine lv_iload_n hx hb dX7_key_12 rfl (lv_at hl 2 rfl) ?_
      refine lv_aload_n hx hb dX7_key_13 rfl (lv_at hl 0 rfl) ?_
      refine fg_X7_25 X hH dX7_key_14 ?_
      refine lv_iload_n hx hb dX7_key_17 rfl (lv_at hl 1 rfl) ?_
      obtain ⟨g, hf⟩ := ite_g hf
      refine r_iald X hH (a_38 E) g dX7_key_18 ?_
      refine lv_icmp_ge (tgt := 35) hx hb dX7_key_19 (by decide) (fun c0 => ?_) (fun c0 => ?_)
      · replace hf := ite_t c0 hf
        refine lv_iconst (v := (-1 : Int32)) hx hb dX7_key_35 (by decide) ?_
        exact r_iret X hH hf dX7_key_36
      · replace hf := ite_f c0 hf
        refine lv_aload_n hx hb dX7_key_22 rfl (lv_at hl 0 rfl) ?_
        refine fg_X7_28 X hH dX7_key_23 ?_
        refine lv_iconst (v := (nI 4)) hx hb dX7_key_26 (by decide) ?_
        refine lv_iload_n hx hb dX7_key_27 rfl (lv_at hl 1 rfl) ?_
        refine lv_imul hx hb dX7_key_28 ?_
        refine lv_iload_n hx hb dX7_key_29 rfl (lv_at hl 2 rfl) ?_
        refine lv_iadd hx hb dX7_key_30 ?_
        obtain ⟨g, hf⟩ := ite_g hf
        refine r_iald X hH (a_39 E) g dX7_key_31 ?_
        refine lv_goto (tgt := 36) hx hb dX7_key_32 (by decide) ?_
        exact r_iret X hH hf dX7_key_36
theorem c_X7_key {l : Launch} {E : Ev} (N : Nat) (S : St) (x1 : Int32) (x2 : Int32) {r : Int32} {S1 : St} (hf : f_X7_key N S x1 x2 = some (r, S1)) : Ct l yX7_key (.code yX7_key cX7_key 3 (some .int)) 2 E [.ref (bb E 32), .int x1, .int x2] S (QI E r S1) := by
  refine Ct.of (by decide) (Nat.le_of_ble_eq_true rfl) (fun p e s m below meth c ls X hH hl => ?_)
  exact w_X7_key_0 X N S x1 x2 hf _ _ hH _ hl
set_option maxRecDepth 100000 in
set_option maxHeartbeats 4000000 in
theorem w_X7_keyBy_0 {p : Program} {l : Launch} {e : Env} {s : State} {m : MethodId} {args : Array Value} {below : List Frame} {meth : Method} {c : Code} {E : Ev} {r : Int32} {S1 : St} (X : GX p s m meth c args cX7_keyBy 2 (some .int) RX7 E) (N : Nat) : ∀ (S : St) (x0 : Int32) (x1 : Int32), f_X7_keyBy N S x0 x1 = some (r, S1) → ∀ (H : Heap) (locs : List Loc), HH E S s H locs → ∀ ls : Array Slot, lv_has ls 2 [(0, .int x0), (1, .int x1)] → W p l e (rmL 2) s m args below meth c H locs 0 0 (MQ below (QI E r S1 s.heap.size) args s 0 0 (AA E s.heap.size)) (F0 m 0 ls []) := by
  have hx := X.1
  have hb := X.2.1
  intro S x0 x1 hf H locs hH ls hl
  rw [f_X7_keyBy] at hf
  refine lv_iload_n hx hb dX7_keyBy_0 rfl (lv_at hl 0 rfl) ?_
  refine lv_bipush (v := (nI 97)) hx hb dX7_keyBy_1 (by decide) ?_
  refine lv_bipush (v := (nI 100)) hx hb dX7_keyBy_3 (by decide) ?_
  obtain ⟨r3, S1, h2, hf⟩ := cal_g hf
  refine go_i hH (run_S X hH (rest := []) (c_X7_within N S x0 (nI 97) (nI 100) h2) gm_X7_80 rfl hl.1 (rmL_ok (by decide) (by decide)) (Nat.le_of_ble_eq_true rfl) rfl dX7_keyBy_5) (fun H locs hH => ?_)
  clear h2
  refine lv_if_eq (tgt := 16) hx hb dX7_keyBy_8 (by decide) (fun c0 => ?_) (fun c0 => ?_)
  · replace hf := ite_t c0 hf
    refine lv_iload_n hx hb dX7_keyBy_16 rfl (lv_at hl 0 rfl) ?_
    refine lv_bipush (v := (nI 48)) hx hb dX7_keyBy_17 (by decide) ?_
    refine lv_bipush (v := (nI 47)) hx hb dX7_keyBy_19 (by decide) ?_
    refine lv_iload_n hx hb dX7_keyBy_21 rfl (lv_at hl 1 rfl) ?_
    refine lv_iadd hx hb dX7_keyBy_22 ?_
    obtain ⟨r6, S4, h5, hf⟩ := cal_g hf
    refine go_i hH (run_S X hH (rest := []) (c_X7_within N S1 x0 (nI 48) ((nI 47) + x1) h5) gm_X7_80 rfl hl.1 (rmL_ok (by decide) (by decide)) (Nat.le_of_ble_eq_true rfl) rfl dX7_keyBy_23) (fun H locs hH => ?_)
    clear h5
    refine lv_if_eq (tgt := 37) hx hb dX7_keyBy_26 (by decide) (fun c0 => ?_) (fun c0 => ?_)
    · replace hf := ite_t c0 hf
      refine lv_iload_n hx hb dX7_keyBy_37 rfl (lv_at hl 0 rfl) ?_
      refine lv_bipush (v := (nI 60)) hx hb dX7_keyBy_38 (by decide) ?_
      refine lv_icmp_ne (tgt := 47) hx hb dX7_keyBy_40 (by decide) (fun c0 => ?_) (fun c0 => ?_)
      · replace hf := ite_f c0 hf
        refine lv_iload_n hx hb dX7_keyBy_47 rfl (lv_at hl 0 rfl) ?_
        refine lv_bipush (v := (nI 62)) hx hb dX7_keyBy_48 (by decide) ?_
        refine lv_icmp_ne (tgt := 57) hx hb dX7_keyBy_50 (by decide) (fun c0 => ?_) (fun c0 => ?_)
        · replace hf := ite_f c0 hf
          refine lv_iload_n hx hb dX7_keyBy_57 rfl (lv_at hl 0 rfl) ?_
          refine lv_bipush (v := (nI 120)) hx hb dX7_keyBy_58 (by decide) ?_
          refine lv_icmp_ne (tgt := 68) hx hb dX7_keyBy_60 (by decide) (fun c0 => ?_) (fun c0 => ?_)
          · replace hf := ite_f c0 hf
            refine lv_iload_n hx hb dX7_keyBy_68 rfl (lv_at hl 0 rfl) ?_
            refine lv_bipush (v := (nI 104)) hx hb dX7_keyBy_69 (by decide) ?_
            refine lv_icmp_ne (tgt := 79) hx hb dX7_keyBy_71 (by decide) (fun c0 => ?_) (fun c0 => ?_)
            · replace hf := ite_f c0 hf
              refine lv_bipush (v := (-9 : Int32)) hx hb dX7_keyBy_79 (by decide) ?_
              exact r_iret X hH hf dX7_keyBy_81
            · replace hf := ite_t c0 hf
              refine lv_bipush (v := (nI 7)) hx hb dX7_keyBy_74 (by decide) ?_
              refine lv_goto (tgt := 81) hx hb dX7_keyBy_76 (by decide) ?_
              exact r_iret X hH hf dX7_keyBy_81
          · replace hf := ite_t c0 hf
            refine lv_bipush (v := (nI 6)) hx hb dX7_keyBy_63 (by decide) ?_
            refine lv_goto (tgt := 81) hx hb dX7_keyBy_65 (by decide) ?_
            exact r_iret X hH hf dX7_keyBy_81
        · replace hf := ite_t c0 hf
          refine lv_iconst (v := (nI 5)) hx hb dX7_keyBy_53 (by decide) ?_
          refine lv_goto (tgt := 81) hx hb dX7_keyBy_54 (by decide) ?_
          exact r_iret X hH hf dX7_keyBy_81
      · replace hf := ite_t c0 hf
        refine lv_iconst (v := (nI 4)) hx hb dX7_keyBy_43 (by decide) ?_
        refine lv_goto (tgt := 81) hx hb dX7_keyBy_44 (by decide) ?_
        exact r_iret X hH hf dX7_keyBy_81
    · replace hf := ite_f c0 hf
      refine lv_iload_n hx hb dX7_keyBy_29 rfl (lv_at hl 0 rfl) ?_
      refine lv_bipush (v := (nI 48)) hx hb dX7_keyBy_30 (by decide) ?_
      refine lv_isub hx hb dX7_keyBy_32 ?_
      refine lv_bipush (v := (nI 8)) hx hb dX7_keyBy_33 (by decide) ?_
      refine lv_iadd hx hb dX7_keyBy_35 ?_
      exact r_iret X hH hf dX7_keyBy_36
  · replace hf := ite_f c0 hf
    refine lv_iload_n hx hb dX7_keyBy_11 rfl (lv_at hl 0 rfl) ?_
    refine lv_bipush (v := (nI 97)) hx hb dX7_keyBy_12 (by decide) ?_
    refine lv_isub hx hb dX7_keyBy_14 ?_
    exact r_iret X hH hf dX7_keyBy_15
theorem c_X7_keyBy {l : Launch} {E : Ev} (N : Nat) (S : St) (x0 : Int32) (x1 : Int32) {r : Int32} {S1 : St} (hf : f_X7_keyBy N S x0 x1 = some (r, S1)) : Ct l yX7_keyBy (.code yX7_keyBy cX7_keyBy 2 (some .int)) 2 E [.int x0, .int x1] S (QI E r S1) := by
  refine Ct.of (by decide) (Nat.le_of_ble_eq_true rfl) (fun p e s m below meth c ls X hH hl => ?_)
  exact w_X7_keyBy_0 X N S x0 x1 hf _ _ hH _ hl
set_option maxRecDepth 100000 in
set_option maxHeartbeats 4000000 in
theorem w_X7_kinds_22 {p : Program} {l : Launch} {e : Env} {s : State} {m : MethodId} {args : Array Value} {below : List Frame} {meth : Method} {c : Code} {E : Ev} {r : Int32} {S1 : St} (X : GX p s m meth c args cX7_kinds 5 (some .int) RX7 E) (N : Nat) : ∀ (n : Nat) (S : St) (x1 : Int32) (x2 : Int32) (x3 : Int32) (x4 : Int32), f_X7_kinds_22 N n S x1 x2 x3 x4 = some (r, S1) → ∀ (H : Heap) (locs : List Loc), HH E S s H locs → ∀ ls : Array Slot, lv_has ls 5 [(0, .ref (bb E 32)), (1, .int x1), (2, .int x2), (3, .int x3), (4, .int x4)] → W p l e (rmL 6) s m args below meth c H locs 0 0 (MQ below (QI E r S1 s.heap.size) args s 0 0 (AA E s.heap.size)) (F0 m 22 ls []) := by
  have hx := X.1
  have hb := X.2.1
  intro n
  induction n with
  | zero =>
    intro S x1 x2 x3 x4 hf
    cases hf
  | succ n ih =>
    intro S x1 x2 x3 x4 hf H locs hH ls hl
    rw [f_X7_kinds_22] at hf
    refine lv_iload hx hb dX7_kinds_22 (lv_at hl 4 rfl) ?_
    refine lv_iconst (v := (nI 3)) hx hb dX7_kinds_24 (by decide) ?_
    refine lv_icmp_ge (tgt := 60) hx hb dX7_kinds_25 (by decide) (fun c0 => ?_) (fun c0 => ?_)
    · replace hf := ite_t c0 hf
      refine lv_aload_n hx hb dX7_kinds_60 rfl (lv_at hl 0 rfl) ?_
      refine fg_X7_19 X hH dX7_kinds_61 ?_
      refine lv_iload_n hx hb dX7_kinds_64 rfl (lv_at hl 1 rfl) ?_
      refine lv_iload_n hx hb dX7_kinds_65 rfl (lv_at hl 2 rfl) ?_
      obtain ⟨g, hf⟩ := ite_g hf
      refine r_iast X hH (a_36 E) g dX7_kinds_66 (fun H locs hH => ?_)
      obtain ⟨S1, ex, hf⟩ := bnd_go hf
      replace hH := HH_eq ex hH
      clear ex
      refine lv_iload_n hx hb dX7_kinds_67 rfl (lv_at hl 3 rfl) ?_
      exact r_iret X hH hf dX7_kinds_68
    · replace hf := ite_f c0 hf
      refine lv_aload_n hx hb dX7_kinds_28 rfl (lv_at hl 0 rfl) ?_
      refine fg_X7_19 X hH dX7_kinds_29 ?_
      refine lv_iload_n hx hb dX7_kinds_32 rfl (lv_at hl 1 rfl) ?_
      refine lv_iload hx hb dX7_kinds_33 (lv_at hl 4 rfl) ?_
      obtain ⟨g, hf⟩ := ite_g hf
      refine r_iast X hH (a_36 E) g dX7_kinds_35 (fun H locs hH => ?_)
      obtain ⟨S2, ex, hf⟩ := bnd_go hf
      replace hH := HH_eq ex hH
      clear ex
      refine lv_iload_n hx hb dX7_kinds_36 rfl (lv_at hl 3 rfl) ?_
      refine lv_aload_n hx hb dX7_kinds_37 rfl (lv_at hl 0 rfl) ?_
      obtain ⟨r5, S3, h4, hf⟩ := cal_g hf
      refine go_i hH (run_V X hH (rest := [.int x3]) (c_X7_areSo N S2 h4) gm_X7_207 (by decide) (e_32 E _) rfl rfl hl.1 (rmL_ok (by decide) (by decide)) (Nat.le_of_ble_eq_true rfl) rfl dX7_kinds_38) (fun H locs hH => ?_)
      clear h4
      refine lv_if_eq (tgt := 51) hx hb dX7_kinds_41 (by decide) (fun c0 => ?_) (fun c0 => ?_)
      · replace hf := ite_t c0 hf
        refine lv_iconst (v := (nI 0)) hx hb dX7_kinds_51 (by decide) ?_
        refine lv_ior hx hb dX7_kinds_52 ?_
        refine lv_topi (fun y6 ex => ?_)
        replace hf := bnd_at ex hf
        clear ex
        refine lv_istore_n (lv' := [(3, .int y6), (0, .ref (bb E 32)), (1, .int x1), (2, .int x2), (4, .int x4)]) hx hb dX7_kinds_53 rfl hl (by decide) rfl (fun ls hl => ?_)
        obtain ⟨y7, ex, hf⟩ := bnd_go hf
        refine lv_iinc (v := y7) (lv' := [(4, .int y7), (3, .int y6), (0, .ref (bb E 32)), (1, .int x1), (2, .int x2)]) hx hb dX7_kinds_54 hl (k := 4) rfl (by rw [ex]; rfl) (by decide) rfl (fun ls hl => ?_)
        clear ex
        refine lv_goto (tgt := 22) hx hb dX7_kinds_57 (by decide) ?_
        exact ih S3 x1 x2 y6 y7 hf _ _ hH _ (lv_sub hl [2, 3, 4, 1, 0] rfl)
      · replace hf := ite_f c0 hf
        refine lv_iconst (v := (nI 1)) hx hb dX7_kinds_44 (by decide) ?_
        refine lv_iload hx hb dX7_kinds_45 (lv_at hl 4 rfl) ?_
        refine lv_ishl hx hb dX7_kinds_47 ?_
        refine lv_goto (tgt := 52) hx hb dX7_kinds_48 (by decide) ?_
        refine lv_ior hx hb dX7_kinds_52 ?_
        refine lv_topi (fun y8 ex => ?_)
        replace hf := bnd_at ex hf
        clear ex
        refine lv_istore_n (lv' := [(3, .int y8), (0, .ref (bb E 32)), (1, .int x1), (2, .int x2), (4, .int x4)]) hx hb dX7_kinds_53 rfl hl (by decide) rfl (fun ls hl => ?_)
        obtain ⟨y9, ex, hf⟩ := bnd_go hf
        refine lv_iinc (v := y9) (lv' := [(4, .int y9), (3, .int y8), (0, .ref (bb E 32)), (1, .int x1), (2, .int x2)]) hx hb dX7_kinds_54 hl (k := 4) rfl (by rw [ex]; rfl) (by decide) rfl (fun ls hl => ?_)
        clear ex
        refine lv_goto (tgt := 22) hx hb dX7_kinds_57 (by decide) ?_
        exact ih S3 x1 x2 y8 y9 hf _ _ hH _ (lv_sub hl [2, 3, 4, 1, 0] rfl)
set_option maxRecDepth 100000 in
set_option maxHeartbeats 4000000 in
theorem w_X7_kinds_0 {p : Program} {l : Launch} {e : Env} {s : State} {m : MethodId} {args : Array Value} {below : List Frame} {meth : Method} {c : Code} {E : Ev} {r : Int32} {S1 : St} (X : GX p s m meth c args cX7_kinds 5 (some .int) RX7 E) (N : Nat) : ∀ (S : St) (x1 : Int32), f_X7_kinds N S x1 = some (r, S1) → ∀ (H : Heap) (locs : List Loc), HH E S s H locs → ∀ ls : Array Slot, lv_has ls 5 [(0, .ref (bb E 32)), (1, .int x1)] → W p l e (rmL 6) s m args below meth c H locs 0 0 (MQ below (QI E r S1 s.heap.size) args s 0 0 (AA E s.heap.size)) (F0 m 0 ls []) := by
  have hx := X.1
  have hb := X.2.1
  intro S x1 hf H locs hH ls hl
  rw [f_X7_kinds] at hf
  refine lv_aload_n hx hb dX7_kinds_0 rfl (lv_at hl 0 rfl) ?_
  refine lv_iload_n hx hb dX7_kinds_1 rfl (lv_at hl 1 rfl) ?_
  obtain ⟨r3, S1, h2, hf⟩ := cal_g hf
  refine go_i hH (run_V X hH (rest := []) (c_X7_isMacro N S x1 h2) gm_X7_134 (by decide) (e_32 E _) rfl rfl hl.1 (rmL_ok (by decide) (by decide)) (Nat.le_of_ble_eq_true rfl) rfl dX7_kinds_2) (fun H locs hH => ?_)
  clear h2
  refine lv_if_ne (tgt := 10) hx hb dX7_kinds_5 (by decide) (fun c0 => ?_) (fun c0 => ?_)
  · replace hf := ite_f c0 hf
    refine lv_aload_n hx hb dX7_kinds_10 rfl (lv_at hl 0 rfl) ?_
    refine fg_X7_19 X hH dX7_kinds_11 ?_
    refine lv_iload_n hx hb dX7_kinds_14 rfl (lv_at hl 1 rfl) ?_
    obtain ⟨g, hf⟩ := ite_g hf
    refine r_iald X hH (a_36 E) g dX7_kinds_15 ?_
    refine lv_topi (fun y4 ex => ?_)
    replace hf := bnd_at ex hf
    clear ex
    refine lv_istore_n (lv' := [(2, .int y4), (0, .ref (bb E 32)), (1, .int x1)]) hx hb dX7_kinds_16 rfl hl (by decide) rfl (fun ls hl => ?_)
    refine lv_iconst (v := (nI 0)) hx hb dX7_kinds_17 (by decide) ?_
    refine lv_topi (fun y5 ex => ?_)
    replace hf := bnd_at ex hf
    clear ex
    refine lv_istore_n (lv' := [(3, .int y5), (2, .int y4), (0, .ref (bb E 32)), (1, .int x1)]) hx hb dX7_kinds_18 rfl hl (by decide) rfl (fun ls hl => ?_)
    refine lv_iconst (v := (nI 0)) hx hb dX7_kinds_19 (by decide) ?_
    refine lv_topi (fun y6 ex => ?_)
    replace hf := bnd_at ex hf
    clear ex
    refine lv_istore (lv' := [(4, .int y6), (3, .int y5), (2, .int y4), (0, .ref (bb E 32)), (1, .int x1)]) hx hb dX7_kinds_20 hl (by decide) rfl (fun ls hl => ?_)
    exact w_X7_kinds_22 X N N S1 x1 y4 y5 y6 hf _ _ hH _ (lv_sub hl [3, 4, 2, 1, 0] rfl)
  · replace hf := ite_t c0 hf
    refine lv_iconst (v := (-1 : Int32)) hx hb dX7_kinds_8 (by decide) ?_
    exact r_iret X hH hf dX7_kinds_9
theorem c_X7_kinds {l : Launch} {E : Ev} (N : Nat) (S : St) (x1 : Int32) {r : Int32} {S1 : St} (hf : f_X7_kinds N S x1 = some (r, S1)) : Ct l yX7_kinds (.code yX7_kinds cX7_kinds 5 (some .int)) 6 E [.ref (bb E 32), .int x1] S (QI E r S1) := by
  refine Ct.of (by decide) (Nat.le_of_ble_eq_true rfl) (fun p e s m below meth c ls X hH hl => ?_)
  exact w_X7_kinds_0 X N S x1 hf _ _ hH _ hl
set_option maxRecDepth 100000 in
set_option maxHeartbeats 4000000 in
theorem w_X7_letter_0 {p : Program} {l : Launch} {e : Env} {s : State} {m : MethodId} {args : Array Value} {below : List Frame} {meth : Method} {c : Code} {E : Ev} {r : Int32} {S1 : St} (X : GX p s m meth c args cX7_letter 2 (some .int) RX7 E) (N : Nat) : ∀ (S : St) (x1 : Int32), f_X7_letter N S x1 = some (r, S1) → ∀ (H : Heap) (locs : List Loc), HH E S s H locs → ∀ ls : Array Slot, lv_has ls 2 [(0, .ref (bb E 32)), (1, .int x1)] → W p l e (rmL 3) s m args below meth c H locs 0 0 (MQ below (QI E r S1 s.heap.size) args s 0 0 (AA E s.heap.size)) (F0 m 0 ls []) := by
  have hx := X.1
  have hb := X.2.1
  intro S x1 hf H locs hH ls hl
  rw [f_X7_letter] at hf
  refine lv_aload_n hx hb dX7_letter_0 rfl (lv_at hl 0 rfl) ?_
  refine lv_aload_n hx hb dX7_letter_1 rfl (lv_at hl 0 rfl) ?_
  refine fg_X7_111 X hH dX7_letter_2 ?_
  obtain ⟨_, S1, h2, hf⟩ := cal_g hf
  refine go_v hH (run_V X hH (rest := []) (c_X7_workOn N S (S 32 7) h2) gm_X7_165 (by decide) (e_32 E _) rfl rfl hl.1 (rmL_ok (by decide) (by decide)) (Nat.le_of_ble_eq_true rfl) rfl dX7_letter_5) (fun H locs hH => ?_)
  clear h2
  refine lv_iload_n hx hb dX7_letter_8 rfl (lv_at hl 1 rfl) ?_
  refine lv_if_lt (tgt := 29) hx hb dX7_letter_9 (by decide) (fun c0 => ?_) (fun c0 => ?_)
  · replace hf := ite_t c0 hf
    refine lv_iconst (v := (-1 : Int32)) hx hb dX7_letter_29 (by decide) ?_
    exact r_iret X hH hf dX7_letter_30
  · replace hf := ite_f c0 hf
    refine lv_iload_n hx hb dX7_letter_12 rfl (lv_at hl 1 rfl) ?_
    refine lv_aload_n hx hb dX7_letter_13 rfl (lv_at hl 0 rfl) ?_
    refine fg_X7_140 X hH dX7_letter_14 ?_
    refine lv_icmp_ge (tgt := 29) hx hb dX7_letter_17 (by decide) (fun c0 => ?_) (fun c0 => ?_)
    · replace hf := ite_t c0 hf
      refine lv_iconst (v := (-1 : Int32)) hx hb dX7_letter_29 (by decide) ?_
      exact r_iret X hH hf dX7_letter_30
    · replace hf := ite_f c0 hf
      refine lv_aload_n hx hb dX7_letter_20 rfl (lv_at hl 0 rfl) ?_
      refine fg_X7_46 X hH dX7_letter_21 ?_
      refine lv_iload_n hx hb dX7_letter_24 rfl (lv_at hl 1 rfl) ?_
      obtain ⟨g, hf⟩ := ite_g hf
      refine r_iald X hH (a_45 E) g dX7_letter_25 ?_
      refine lv_goto (tgt := 30) hx hb dX7_letter_26 (by decide) ?_
      exact r_iret X hH hf dX7_letter_30
theorem c_X7_letter {l : Launch} {E : Ev} (N : Nat) (S : St) (x1 : Int32) {r : Int32} {S1 : St} (hf : f_X7_letter N S x1 = some (r, S1)) : Ct l yX7_letter (.code yX7_letter cX7_letter 2 (some .int)) 3 E [.ref (bb E 32), .int x1] S (QI E r S1) := by
  refine Ct.of (by decide) (Nat.le_of_ble_eq_true rfl) (fun p e s m below meth c ls X hH hl => ?_)
  exact w_X7_letter_0 X N S x1 hf _ _ hH _ hl
set_option maxRecDepth 100000 in
set_option maxHeartbeats 4000000 in
theorem w_X7_like_27 {p : Program} {l : Launch} {e : Env} {s : State} {m : MethodId} {args : Array Value} {below : List Frame} {meth : Method} {c : Code} {E : Ev} {r : Int32} {S1 : St} (X : GX p s m meth c args cX7_like 5 (some .int) RX7 E) (N : Nat) : ∀ (n : Nat) (S : St) (x1 : Int32) (x2 : Int32) (x3 : Int32) (x4 : Int32), f_X7_like_27 N n S x1 x2 x3 x4 = some (r, S1) → ∀ (H : Heap) (locs : List Loc), HH E S s H locs → ∀ ls : Array Slot, lv_has ls 5 [(0, .ref (bb E 32)), (1, .int x1), (2, .int x2), (3, .int x3), (4, .int x4)] → W p l e (rmL 5) s m args below meth c H locs 0 0 (MQ below (QI E r S1 s.heap.size) args s 0 0 (AA E s.heap.size)) (F0 m 27 ls []) := by
  have hx := X.1
  have hb := X.2.1
  intro n
  induction n with
  | zero =>
    intro S x1 x2 x3 x4 hf
    cases hf
  | succ n ih =>
    intro S x1 x2 x3 x4 hf H locs hH ls hl
    rw [f_X7_like_27] at hf
    refine lv_iload hx hb dX7_like_27 (lv_at hl 4 rfl) ?_
    refine lv_sipush (v := (nI 7737)) hx hb dX7_like_29 (by decide) ?_
    refine lv_icmp_ge (tgt := 78) hx hb dX7_like_32 (by decide) (fun c0 => ?_) (fun c0 => ?_)
    · replace hf := ite_t c0 hf
      refine lv_iload_n hx hb dX7_like_78 rfl (lv_at hl 3 rfl) ?_
      exact r_iret X hH hf dX7_like_79
    · replace hf := ite_f c0 hf
      refine lv_iload_n hx hb dX7_like_35 rfl (lv_at hl 3 rfl) ?_
      refine lv_aload_n hx hb dX7_like_36 rfl (lv_at hl 0 rfl) ?_
      refine fg_X7_59 X hH dX7_like_37 ?_
      refine lv_sipush (v := (nI 7737)) hx hb dX7_like_40 (by decide) ?_
      refine lv_iload_n hx hb dX7_like_43 rfl (lv_at hl 1 rfl) ?_
      refine lv_imul hx hb dX7_like_44 ?_
      refine lv_iload hx hb dX7_like_45 (lv_at hl 4 rfl) ?_
      refine lv_iadd hx hb dX7_like_47 ?_
      obtain ⟨g, hf⟩ := ite_g hf
      refine r_iald X hH (a_49 E) g dX7_like_48 ?_
      refine lv_aload_n hx hb dX7_like_49 rfl (lv_at hl 0 rfl) ?_
      refine fg_X7_59 X hH dX7_like_50 ?_
      refine lv_sipush (v := (nI 7737)) hx hb dX7_like_53 (by decide) ?_
      refine lv_iload_n hx hb dX7_like_56 rfl (lv_at hl 2 rfl) ?_
      refine lv_imul hx hb dX7_like_57 ?_
      refine lv_iload hx hb dX7_like_58 (lv_at hl 4 rfl) ?_
      refine lv_iadd hx hb dX7_like_60 ?_
      obtain ⟨g, hf⟩ := ite_g hf
      refine r_iald X hH (a_49 E) g dX7_like_61 ?_
      refine lv_icmp_ne (tgt := 69) hx hb dX7_like_62 (by decide) (fun c0 => ?_) (fun c0 => ?_)
      · replace hf := ite_f c0 hf
        refine lv_iconst (v := (nI 0)) hx hb dX7_like_69 (by decide) ?_
        refine lv_iadd hx hb dX7_like_70 ?_
        refine lv_topi (fun y1 ex => ?_)
        replace hf := bnd_at ex hf
        clear ex
        refine lv_istore_n (lv' := [(3, .int y1), (0, .ref (bb E 32)), (1, .int x1), (2, .int x2), (4, .int x4)]) hx hb dX7_like_71 rfl hl (by decide) rfl (fun ls hl => ?_)
        obtain ⟨y2, ex, hf⟩ := bnd_go hf
        refine lv_iinc (v := y2) (lv' := [(4, .int y2), (3, .int y1), (0, .ref (bb E 32)), (1, .int x1), (2, .int x2)]) hx hb dX7_like_72 hl (k := 4) rfl (by rw [ex]; rfl) (by decide) rfl (fun ls hl => ?_)
        clear ex
        refine lv_goto (tgt := 27) hx hb dX7_like_75 (by decide) ?_
        exact ih S x1 x2 y1 y2 hf _ _ hH _ (lv_sub hl [2, 3, 4, 1, 0] rfl)
      · replace hf := ite_t c0 hf
        refine lv_iconst (v := (nI 1)) hx hb dX7_like_65 (by decide) ?_
        refine lv_goto (tgt := 70) hx hb dX7_like_66 (by decide) ?_
        refine lv_iadd hx hb dX7_like_70 ?_
        refine lv_topi (fun y3 ex => ?_)
        replace hf := bnd_at ex hf
        clear ex
        refine lv_istore_n (lv' := [(3, .int y3), (0, .ref (bb E 32)), (1, .int x1), (2, .int x2), (4, .int x4)]) hx hb dX7_like_71 rfl hl (by decide) rfl (fun ls hl => ?_)
        obtain ⟨y4, ex, hf⟩ := bnd_go hf
        refine lv_iinc (v := y4) (lv' := [(4, .int y4), (3, .int y3), (0, .ref (bb E 32)), (1, .int x1), (2, .int x2)]) hx hb dX7_like_72 hl (k := 4) rfl (by rw [ex]; rfl) (by decide) rfl (fun ls hl => ?_)
        clear ex
        refine lv_goto (tgt := 27) hx hb dX7_like_75 (by decide) ?_
        exact ih S x1 x2 y3 y4 hf _ _ hH _ (lv_sub hl [2, 3, 4, 1, 0] rfl)
set_option maxRecDepth 100000 in
set_option maxHeartbeats 4000000 in
theorem w_X7_like_0 {p : Program} {l : Launch} {e : Env} {s : State} {m : MethodId} {args : Array Value} {below : List Frame} {meth : Method} {c : Code} {E : Ev} {r : Int32} {S1 : St} (X : GX p s m meth c args cX7_like 5 (some .int) RX7 E) (N : Nat) : ∀ (S : St) (x1 : Int32) (x2 : Int32), f_X7_like N S x1 x2 = some (r, S1) → ∀ (H : Heap) (locs : List Loc), HH E S s H locs → ∀ ls : Array Slot, lv_has ls 5 [(0, .ref (bb E 32)), (1, .int x1), (2, .int x2)] → W p l e (rmL 5) s m args below meth c H locs 0 0 (MQ below (QI E r S1 s.heap.size) args s 0 0 (AA E s.heap.size)) (F0 m 0 ls []) := by
  have hx := X.1
  have hb := X.2.1
  intro S x1 x2 hf H locs hH ls hl
  rw [f_X7_like] at hf
  refine lv_aload_n hx hb dX7_like_0 rfl (lv_at hl 0 rfl) ?_
  refine lv_iload_n hx hb dX7_like_1 rfl (lv_at hl 1 rfl) ?_
  obtain ⟨r3, S1, h2, hf⟩ := cal_g hf
  refine go_i hH (run_V X hH (rest := []) (c_X7_isKey N S x1 h2) gm_X7_204 (by decide) (e_32 E _) rfl rfl hl.1 (rmL_ok (by decide) (by decide)) (Nat.le_of_ble_eq_true rfl) rfl dX7_like_2) (fun H locs hH => ?_)
  clear h2
  refine lv_if_eq (tgt := 16) hx hb dX7_like_5 (by decide) (fun c0 => ?_) (fun c0 => ?_)
  · replace hf := ite_t c0 hf
    refine lv_iconst (v := (-1 : Int32)) hx hb dX7_like_16 (by decide) ?_
    exact r_iret X hH hf dX7_like_17
  · replace hf := ite_f c0 hf
    refine lv_aload_n hx hb dX7_like_8 rfl (lv_at hl 0 rfl) ?_
    refine lv_iload_n hx hb dX7_like_9 rfl (lv_at hl 2 rfl) ?_
    obtain ⟨r6, S4, h5, hf⟩ := cal_g hf
    refine go_i hH (run_V X hH (rest := []) (c_X7_isKey N S1 x2 h5) gm_X7_204 (by decide) (e_32 E _) rfl rfl hl.1 (rmL_ok (by decide) (by decide)) (Nat.le_of_ble_eq_true rfl) rfl dX7_like_10) (fun H locs hH => ?_)
    clear h5
    refine lv_if_ne (tgt := 18) hx hb dX7_like_13 (by decide) (fun c0 => ?_) (fun c0 => ?_)
    · replace hf := ite_f c0 hf
      refine lv_aload_n hx hb dX7_like_18 rfl (lv_at hl 0 rfl) ?_
      obtain ⟨_, S7, h8, hf⟩ := cal_g hf
      refine go_v hH (run_V X hH (rest := []) (c_X7_findMakes N S4 h8) gm_X7_198 (by decide) (e_32 E _) rfl rfl hl.1 (rmL_ok (by decide) (by decide)) (Nat.le_of_ble_eq_true rfl) rfl dX7_like_19) (fun H locs hH => ?_)
      clear h8
      refine lv_iconst (v := (nI 0)) hx hb dX7_like_22 (by decide) ?_
      refine lv_topi (fun y10 ex => ?_)
      replace hf := bnd_at ex hf
      clear ex
      refine lv_istore_n (lv' := [(3, .int y10), (0, .ref (bb E 32)), (1, .int x1), (2, .int x2)]) hx hb dX7_like_23 rfl hl (by decide) rfl (fun ls hl => ?_)
      refine lv_iconst (v := (nI 0)) hx hb dX7_like_24 (by decide) ?_
      refine lv_topi (fun y11 ex => ?_)
      replace hf := bnd_at ex hf
      clear ex
      refine lv_istore (lv' := [(4, .int y11), (3, .int y10), (0, .ref (bb E 32)), (1, .int x1), (2, .int x2)]) hx hb dX7_like_25 hl (by decide) rfl (fun ls hl => ?_)
      exact w_X7_like_27 X N N S7 x1 x2 y10 y11 hf _ _ hH _ (lv_sub hl [2, 3, 4, 1, 0] rfl)
    · replace hf := ite_t c0 hf
      refine lv_iconst (v := (-1 : Int32)) hx hb dX7_like_16 (by decide) ?_
      exact r_iret X hH hf dX7_like_17
theorem c_X7_like {l : Launch} {E : Ev} (N : Nat) (S : St) (x1 : Int32) (x2 : Int32) {r : Int32} {S1 : St} (hf : f_X7_like N S x1 x2 = some (r, S1)) : Ct l yX7_like (.code yX7_like cX7_like 5 (some .int)) 5 E [.ref (bb E 32), .int x1, .int x2] S (QI E r S1) := by
  refine Ct.of (by decide) (Nat.le_of_ble_eq_true rfl) (fun p e s m below meth c ls X hH hl => ?_)
  exact w_X7_like_0 X N S x1 x2 hf _ _ hH _ hl
set_option maxRecDepth 100000 in
set_option maxHeartbeats 4000000 in
theorem w_X7_lose_25 {p : Program} {l : Launch} {e : Env} {s : State} {m : MethodId} {args : Array Value} {below : List Frame} {meth : Method} {c : Code} {E : Ev} {r : Int32} {S1 : St} (X : GX p s m meth c args cX7_lose 3 (some .int) RX7 E) (N : Nat) : ∀ (S : St) (x1 : Int32) (xs0 : Int32), f_X7_lose_25 N S x1 xs0 = some (r, S1) → ∀ (H : Heap) (locs : List Loc), HH E S s H locs → ∀ ls : Array Slot, lv_has ls 3 [(0, .ref (bb E 32)), (1, .int x1)] → W p l e (rmL 3) s m args below meth c H locs 0 0 (MQ below (QI E r S1 s.heap.size) args s 0 0 (AA E s.heap.size)) (F0 m 25 ls [.int xs0]) := by
  have hx := X.1
  have hb := X.2.1
  intro S x1 xs0 hf H locs hH ls hl
  rw [f_X7_lose_25] at hf
  refine lv_istore_n (lv' := [(2, .int xs0), (0, .ref (bb E 32)), (1, .int x1)]) hx hb dX7_lose_25 rfl hl (by decide) rfl (fun ls hl => ?_)
  refine lv_aload_n hx hb dX7_lose_26 rfl (lv_at hl 1 rfl) ?_
  refine fg_X7_9 X hH dX7_lose_27 ?_
  refine lv_iload_n hx hb dX7_lose_30 rfl (lv_at hl 2 rfl) ?_
  refine lv_bipush (v := (-9 : Int32)) hx hb dX7_lose_31 (by decide) ?_
  obtain ⟨g, hf⟩ := ite_g hf
  refine r_iast X hH (a_33 E) g dX7_lose_33 (fun H locs hH => ?_)
  obtain ⟨S1, ex, hf⟩ := bnd_go hf
  replace hH := HH_eq ex hH
  clear ex
  refine lv_iload_n hx hb dX7_lose_34 rfl (lv_at hl 0 rfl) ?_
  exact r_iret X hH hf dX7_lose_35
set_option maxRecDepth 100000 in
set_option maxHeartbeats 4000000 in
theorem w_X7_lose_0 {p : Program} {l : Launch} {e : Env} {s : State} {m : MethodId} {args : Array Value} {below : List Frame} {meth : Method} {c : Code} {E : Ev} {r : Int32} {S1 : St} (X : GX p s m meth c args cX7_lose 3 (some .int) RX7 E) (N : Nat) : ∀ (S : St) (x1 : Int32), f_X7_lose N S x1 = some (r, S1) → ∀ (H : Heap) (locs : List Loc), HH E S s H locs → ∀ ls : Array Slot, lv_has ls 3 [(0, .ref (bb E 32)), (1, .int x1)] → W p l e (rmL 3) s m args below meth c H locs 0 0 (MQ below (QI E r S1 s.heap.size) args s 0 0 (AA E s.heap.size)) (F0 m 0 ls []) := by
  have hx := X.1
  have hb := X.2.1
  intro S x1 hf H locs hH ls hl
  rw [f_X7_lose] at hf
  refine lv_iload_n hx hb dX7_lose_0 rfl (lv_at hl 1 rfl) ?_
  obtain ⟨r3, S1, h2, hf⟩ := cal_g hf
  refine go_i hH (run_S X hH (rest := []) (c_X7_isSheet N S x1 h2) gm_X7_87 rfl hl.1 (rmL_ok (by decide) (by decide)) (Nat.le_of_ble_eq_true rfl) rfl dX7_lose_1) (fun H locs hH => ?_)
  clear h2
  refine lv_if_ne (tgt := 9) hx hb dX7_lose_4 (by decide) (fun c0 => ?_) (fun c0 => ?_)
  · replace hf := ite_f c0 hf
    refine lv_aload_n hx hb dX7_lose_9 rfl (lv_at hl 0 rfl) ?_
    refine fg_X7_9 X hH dX7_lose_10 ?_
    refine lv_iload_n hx hb dX7_lose_13 rfl (lv_at hl 1 rfl) ?_
    obtain ⟨g, hf⟩ := ite_g hf
    refine r_iald X hH (a_33 E) g dX7_lose_14 ?_
    refine lv_bipush (v := (-9 : Int32)) hx hb dX7_lose_15 (by decide) ?_
    refine lv_icmp_ne (tgt := 24) hx hb dX7_lose_17 (by decide) (fun c0 => ?_) (fun c0 => ?_)
    · replace hf := ite_f c0 hf
      refine lv_iconst (v := (nI 1)) hx hb dX7_lose_24 (by decide) ?_
      exact w_X7_lose_25 X N S1 x1 (nI 1) hf _ _ hH _ (lv_sub hl [0, 1] rfl)
    · replace hf := ite_t c0 hf
      refine lv_iconst (v := (nI 0)) hx hb dX7_lose_20 (by decide) ?_
      refine lv_goto (tgt := 25) hx hb dX7_lose_21 (by decide) ?_
      exact w_X7_lose_25 X N S1 x1 (nI 0) hf _ _ hH _ (lv_sub hl [0, 1] rfl)
  · replace hf := ite_t c0 hf
    refine lv_iconst (v := (-1 : Int32)) hx hb dX7_lose_7 (by decide) ?_
    exact r_iret X hH hf dX7_lose_8
theorem c_X7_lose {l : Launch} {E : Ev} (N : Nat) (S : St) (x1 : Int32) {r : Int32} {S1 : St} (hf : f_X7_lose N S x1 = some (r, S1)) : Ct l yX7_lose (.code yX7_lose cX7_lose 3 (some .int)) 3 E [.ref (bb E 32), .int x1] S (QI E r S1) := by
  refine Ct.of (by decide) (Nat.le_of_ble_eq_true rfl) (fun p e s m below meth c ls X hH hl => ?_)
  exact w_X7_lose_0 X N S x1 hf _ _ hH _ hl
set_option maxRecDepth 100000 in
set_option maxHeartbeats 4000000 in
theorem w_X7_readMacro_234 {p : Program} {l : Launch} {e : Env} {s : State} {m : MethodId} {args : Array Value} {below : List Frame} {meth : Method} {c : Code} {E : Ev} {r : Int32} {S1 : St} (X : GX p s m meth c args cX7_readMacro 4 (some .boolean) RX7 E) (N : Nat) : ∀ (S : St) (x2 : Int32), f_X7_readMacro_234 N S x2 = some (r, S1) → ∀ (H : Heap) (locs : List Loc), HH E S s H locs → ∀ ls : Array Slot, lv_has ls 4 [(0, .ref (bb E 32)), (2, .int x2)] → W p l e (rmL 3) s m args below meth c H locs 0 0 (MQ below (QI E r S1 s.heap.size) args s 0 0 (AA E s.heap.size)) (F0 m 234 ls []) := by
  have hx := X.1
  have hb := X.2.1
  intro S x2 hf H locs hH ls hl
  rw [f_X7_readMacro_234] at hf
  refine lv_aload_n hx hb dX7_readMacro_234 rfl (lv_at hl 0 rfl) ?_
  refine fg_X7_37 X hH dX7_readMacro_235 ?_
  refine lv_iload_n hx hb dX7_readMacro_238 rfl (lv_at hl 1 rfl) ?_
  obtain ⟨g, hf⟩ := ite_g hf
  refine r_iald X hH (a_42 E) g dX7_readMacro_239 ?_
  refine lv_if_le (tgt := 247) hx hb dX7_readMacro_240 (by decide) (fun c0 => ?_) (fun c0 => ?_)
  · replace hf := ite_t c0 hf
    refine lv_iconst (v := (nI 0)) hx hb dX7_readMacro_247 (by decide) ?_
    exact r_zret X hH (by decide) hf dX7_readMacro_248
  · replace hf := ite_f c0 hf
    refine lv_iconst (v := (nI 1)) hx hb dX7_readMacro_243 (by decide) ?_
    refine lv_goto (tgt := 248) hx hb dX7_readMacro_244 (by decide) ?_
    exact r_zret X hH (by decide) hf dX7_readMacro_248
set_option maxRecDepth 100000 in
set_option maxHeartbeats 4000000 in
theorem w_X7_readMacro_147 {p : Program} {l : Launch} {e : Env} {s : State} {m : MethodId} {args : Array Value} {below : List Frame} {meth : Method} {c : Code} {E : Ev} {r : Int32} {S1 : St} (X : GX p s m meth c args cX7_readMacro 4 (some .boolean) RX7 E) (N : Nat) : ∀ (n : Nat) (S : St) (x1 : Int32) (x2 : Int32), f_X7_readMacro_147 N n S x1 x2 = some (r, S1) → ∀ (H : Heap) (locs : List Loc), HH E S s H locs → ∀ ls : Array Slot, lv_has ls 4 [(0, .ref (bb E 32)), (1, .int x1), (2, .int x2)] → W p l e (rmL 3) s m args below meth c H locs 0 0 (MQ below (QI E r S1 s.heap.size) args s 0 0 (AA E s.heap.size)) (F0 m 147 ls []) := by
  have hx := X.1
  have hb := X.2.1
  intro n
  induction n with
  | zero =>
    intro S x1 x2 hf
    cases hf
  | succ n ih =>
    intro S x1 x2 hf H locs hH ls hl
    rw [f_X7_readMacro_147] at hf
    refine lv_aload_n hx hb dX7_readMacro_147 rfl (lv_at hl 0 rfl) ?_
    refine fg_X7_37 X hH dX7_readMacro_148 ?_
    refine lv_iload_n hx hb dX7_readMacro_151 rfl (lv_at hl 2 rfl) ?_
    obtain ⟨g, hf⟩ := ite_g hf
    refine r_iald X hH (a_42 E) g dX7_readMacro_152 ?_
    refine lv_iconst (v := (nI 4)) hx hb dX7_readMacro_153 (by decide) ?_
    refine lv_icmp_ge (tgt := 234) hx hb dX7_readMacro_154 (by decide) (fun c0 => ?_) (fun c0 => ?_)
    · replace hf := ite_t c0 hf
      exact w_X7_readMacro_234 X N S x2 hf _ _ hH _ (lv_sub hl [0, 2] rfl)
    · replace hf := ite_f c0 hf
      refine lv_aload_n hx hb dX7_readMacro_157 rfl (lv_at hl 0 rfl) ?_
      refine fg_X7_102 X hH dX7_readMacro_158 ?_
      refine lv_iload_n hx hb dX7_readMacro_161 rfl (lv_at hl 1 rfl) ?_
      refine lv_icmp_ge (tgt := 234) hx hb dX7_readMacro_162 (by decide) (fun c0 => ?_) (fun c0 => ?_)
      · replace hf := ite_t c0 hf
        exact w_X7_readMacro_234 X N S x2 hf _ _ hH _ (lv_sub hl [0, 2] rfl)
      · replace hf := ite_f c0 hf
        refine lv_aload_n hx hb dX7_readMacro_165 rfl (lv_at hl 0 rfl) ?_
        refine fg_X7_16 X hH dX7_readMacro_166 ?_
        refine lv_aload_n hx hb dX7_readMacro_169 rfl (lv_at hl 0 rfl) ?_
        refine fg_X7_102 X hH dX7_readMacro_170 ?_
        obtain ⟨g, hf⟩ := ite_g hf
        refine r_iald X hH (a_35 E) g dX7_readMacro_173 ?_
        refine lv_iload_n hx hb dX7_readMacro_174 rfl (lv_at hl 2 rfl) ?_
        obtain ⟨r3, S1, h2, hf⟩ := cal_g hf
        refine go_i hH (run_S X hH (rest := []) (c_X7_keyBy N S (S 35 (S 32 12).toNatClampNeg) x2 h2) gm_X7_127 rfl hl.1 (rmL_ok (by decide) (by decide)) (Nat.le_of_ble_eq_true rfl) rfl dX7_readMacro_175) (fun H locs hH => ?_)
        clear h2
        refine lv_bipush (v := (-9 : Int32)) hx hb dX7_readMacro_178 (by decide) ?_
        refine lv_icmp_eq (tgt := 234) hx hb dX7_readMacro_180 (by decide) (fun c0 => ?_) (fun c0 => ?_)
        · replace hf := ite_t c0 hf
          exact w_X7_readMacro_234 X N S1 x2 hf _ _ hH _ (lv_sub hl [0, 2] rfl)
        · replace hf := ite_f c0 hf
          refine lv_aload_n hx hb dX7_readMacro_183 rfl (lv_at hl 0 rfl) ?_
          refine fg_X7_40 X hH dX7_readMacro_184 ?_
          refine lv_iconst (v := (nI 4)) hx hb dX7_readMacro_187 (by decide) ?_
          refine lv_iload_n hx hb dX7_readMacro_188 rfl (lv_at hl 2 rfl) ?_
          refine lv_imul hx hb dX7_readMacro_189 ?_
          refine lv_aload_n hx hb dX7_readMacro_190 rfl (lv_at hl 0 rfl) ?_
          refine fg_X7_37 X hH dX7_readMacro_191 ?_
          refine lv_iload_n hx hb dX7_readMacro_194 rfl (lv_at hl 2 rfl) ?_
          obtain ⟨g, hf⟩ := ite_g hf
          refine r_iald X hH (a_42 E) g dX7_readMacro_195 ?_
          refine lv_iadd hx hb dX7_readMacro_196 ?_
          refine lv_aload_n hx hb dX7_readMacro_197 rfl (lv_at hl 0 rfl) ?_
          refine fg_X7_16 X hH dX7_readMacro_198 ?_
          refine lv_aload_n hx hb dX7_readMacro_201 rfl (lv_at hl 0 rfl) ?_
          refine fg_X7_102 X hH dX7_readMacro_202 ?_
          obtain ⟨g, hf⟩ := ite_g hf
          refine r_iald X hH (a_35 E) g dX7_readMacro_205 ?_
          refine lv_iload_n hx hb dX7_readMacro_206 rfl (lv_at hl 2 rfl) ?_
          obtain ⟨r6, S4, h5, hf⟩ := cal_g hf
          refine go_i hH (run_S X hH (rest := [.int (((nI 4) * x2) + (S1 42 x2.toNatClampNeg)), .ref (bb E 43)]) (c_X7_keyBy N S1 (S1 35 (S1 32 12).toNatClampNeg) x2 h5) gm_X7_127 rfl hl.1 (rmL_ok (by decide) (by decide)) (Nat.le_of_ble_eq_true rfl) rfl dX7_readMacro_207) (fun H locs hH => ?_)
          clear h5
          obtain ⟨g, hf⟩ := ite_g hf
          refine r_iast X hH (a_43 E) g dX7_readMacro_210 (fun H locs hH => ?_)
          obtain ⟨S7, ex, hf⟩ := bnd_go hf
          replace hH := HH_eq ex hH
          clear ex
          refine lv_aload_n hx hb dX7_readMacro_211 rfl (lv_at hl 0 rfl) ?_
          refine fg_X7_37 X hH dX7_readMacro_212 ?_
          refine lv_iload_n hx hb dX7_readMacro_215 rfl (lv_at hl 2 rfl) ?_
          refine lv_dup2_11 hx hb dX7_readMacro_216 rfl rfl ?_
          obtain ⟨g, hf⟩ := ite_g hf
          refine r_iald X hH (a_42 E) g dX7_readMacro_217 ?_
          refine lv_iconst (v := (nI 1)) hx hb dX7_readMacro_218 (by decide) ?_
          refine lv_iadd hx hb dX7_readMacro_219 ?_
          obtain ⟨g, hf⟩ := ite_g hf
          refine r_iast X hH (a_42 E) g dX7_readMacro_220 (fun H locs hH => ?_)
          obtain ⟨S8, ex, hf⟩ := bnd_go hf
          replace hH := HH_eq ex hH
          clear ex
          refine lv_aload_n hx hb dX7_readMacro_221 rfl (lv_at hl 0 rfl) ?_
          refine lv_dup hx hb dX7_readMacro_222 rfl ?_
          refine fg_X7_102 X hH dX7_readMacro_223 ?_
          refine lv_iconst (v := (nI 1)) hx hb dX7_readMacro_226 (by decide) ?_
          refine lv_iadd hx hb dX7_readMacro_227 ?_
          refine fp_X7_102 X hH dX7_readMacro_228 (fun H locs hH => ?_)
          obtain ⟨S9, ex, hf⟩ := bnd_go hf
          replace hH := HH_eq ex hH
          clear ex
          refine lv_goto (tgt := 147) hx hb dX7_readMacro_231 (by decide) ?_
          exact ih S9 x1 x2 hf _ _ hH _ (lv_sub hl [0, 1, 2] rfl)
set_option maxRecDepth 100000 in
set_option maxHeartbeats 4000000 in
theorem w_X7_readMacro_59 {p : Program} {l : Launch} {e : Env} {s : State} {m : MethodId} {args : Array Value} {below : List Frame} {meth : Method} {c : Code} {E : Ev} {r : Int32} {S1 : St} (X : GX p s m meth c args cX7_readMacro 4 (some .boolean) RX7 E) (N : Nat) : ∀ (S : St) (x1 : Int32) (x2 : Int32) (xs0 : Int32) (xs1 : Int32), f_X7_readMacro_59 N S x1 x2 xs0 xs1 = some (r, S1) → ∀ (H : Heap) (locs : List Loc), HH E S s H locs → ∀ ls : Array Slot, lv_has ls 4 [(0, .ref (bb E 32)), (1, .int x1), (2, .int x2)] → W p l e (rmL 3) s m args below meth c H locs 0 0 (MQ below (QI E r S1 s.heap.size) args s 0 0 (AA E s.heap.size)) (F0 m 59 ls [.int xs0, .int xs1, .ref (bb E 40)]) := by
  have hx := X.1
  have hb := X.2.1
  intro S x1 x2 xs0 xs1 hf H locs hH ls hl
  rw [f_X7_readMacro_59] at hf
  obtain ⟨g, hf⟩ := ite_g hf
  refine r_iast X hH (a_40 E) g dX7_readMacro_59 (fun H locs hH => ?_)
  obtain ⟨S1, ex, hf⟩ := bnd_go hf
  replace hH := HH_eq ex hH
  clear ex
  refine lv_aload_n hx hb dX7_readMacro_60 rfl (lv_at hl 0 rfl) ?_
  refine fg_X7_31 X hH dX7_readMacro_61 ?_
  refine lv_iload_n hx hb dX7_readMacro_64 rfl (lv_at hl 2 rfl) ?_
  obtain ⟨g, hf⟩ := ite_g hf
  refine r_iald X hH (a_40 E) g dX7_readMacro_65 ?_
  refine lv_bipush (v := (-9 : Int32)) hx hb dX7_readMacro_66 (by decide) ?_
  refine lv_icmp_ne (tgt := 73) hx hb dX7_readMacro_68 (by decide) (fun c0 => ?_) (fun c0 => ?_)
  · replace hf := ite_f c0 hf
    refine lv_aload_n hx hb dX7_readMacro_73 rfl (lv_at hl 0 rfl) ?_
    refine lv_dup hx hb dX7_readMacro_74 rfl ?_
    refine fg_X7_102 X hH dX7_readMacro_75 ?_
    refine lv_iconst (v := (nI 1)) hx hb dX7_readMacro_78 (by decide) ?_
    refine lv_iadd hx hb dX7_readMacro_79 ?_
    refine fp_X7_102 X hH dX7_readMacro_80 (fun H locs hH => ?_)
    obtain ⟨S2, ex, hf⟩ := bnd_go hf
    replace hH := HH_eq ex hH
    clear ex
    refine lv_aload_n hx hb dX7_readMacro_83 rfl (lv_at hl 0 rfl) ?_
    refine fg_X7_102 X hH dX7_readMacro_84 ?_
    refine lv_iload_n hx hb dX7_readMacro_87 rfl (lv_at hl 1 rfl) ?_
    refine lv_icmp_ge (tgt := 110) hx hb dX7_readMacro_88 (by decide) (fun c0 => ?_) (fun c0 => ?_)
    · replace hf := ite_t c0 hf
      refine lv_iconst (v := (nI 0)) hx hb dX7_readMacro_110 (by decide) ?_
      exact r_zret X hH (by decide) hf dX7_readMacro_111
    · replace hf := ite_f c0 hf
      refine lv_aload_n hx hb dX7_readMacro_91 rfl (lv_at hl 0 rfl) ?_
      refine fg_X7_16 X hH dX7_readMacro_92 ?_
      refine lv_aload_n hx hb dX7_readMacro_95 rfl (lv_at hl 0 rfl) ?_
      refine fg_X7_102 X hH dX7_readMacro_96 ?_
      obtain ⟨g, hf⟩ := ite_g hf
      refine r_iald X hH (a_35 E) g dX7_readMacro_99 ?_
      refine lv_bipush (v := (nI 49)) hx hb dX7_readMacro_100 (by decide) ?_
      refine lv_bipush (v := (nI 51)) hx hb dX7_readMacro_102 (by decide) ?_
      obtain ⟨r5, S3, h4, hf⟩ := cal_g hf
      refine go_i hH (run_S X hH (rest := []) (c_X7_within N S2 (S2 35 (S2 32 12).toNatClampNeg) (nI 49) (nI 51) h4) gm_X7_80 rfl hl.1 (rmL_ok (by decide) (by decide)) (Nat.le_of_ble_eq_true rfl) rfl dX7_readMacro_104) (fun H locs hH => ?_)
      clear h4
      refine lv_if_ne (tgt := 112) hx hb dX7_readMacro_107 (by decide) (fun c0 => ?_) (fun c0 => ?_)
      · replace hf := ite_f c0 hf
        refine lv_aload_n hx hb dX7_readMacro_112 rfl (lv_at hl 0 rfl) ?_
        refine fg_X7_34 X hH dX7_readMacro_113 ?_
        refine lv_iload_n hx hb dX7_readMacro_116 rfl (lv_at hl 2 rfl) ?_
        refine lv_aload_n hx hb dX7_readMacro_117 rfl (lv_at hl 0 rfl) ?_
        refine fg_X7_16 X hH dX7_readMacro_118 ?_
        refine lv_aload_n hx hb dX7_readMacro_121 rfl (lv_at hl 0 rfl) ?_
        refine fg_X7_102 X hH dX7_readMacro_122 ?_
        obtain ⟨g, hf⟩ := ite_g hf
        refine r_iald X hH (a_35 E) g dX7_readMacro_125 ?_
        refine lv_bipush (v := (nI 48)) hx hb dX7_readMacro_126 (by decide) ?_
        refine lv_isub hx hb dX7_readMacro_128 ?_
        obtain ⟨g, hf⟩ := ite_g hf
        refine r_iast X hH (a_41 E) g dX7_readMacro_129 (fun H locs hH => ?_)
        obtain ⟨S6, ex, hf⟩ := bnd_go hf
        replace hH := HH_eq ex hH
        clear ex
        refine lv_aload_n hx hb dX7_readMacro_130 rfl (lv_at hl 0 rfl) ?_
        refine lv_dup hx hb dX7_readMacro_131 rfl ?_
        refine fg_X7_102 X hH dX7_readMacro_132 ?_
        refine lv_iconst (v := (nI 1)) hx hb dX7_readMacro_135 (by decide) ?_
        refine lv_iadd hx hb dX7_readMacro_136 ?_
        refine fp_X7_102 X hH dX7_readMacro_137 (fun H locs hH => ?_)
        obtain ⟨S7, ex, hf⟩ := bnd_go hf
        replace hH := HH_eq ex hH
        clear ex
        refine lv_aload_n hx hb dX7_readMacro_140 rfl (lv_at hl 0 rfl) ?_
        refine fg_X7_37 X hH dX7_readMacro_141 ?_
        refine lv_iload_n hx hb dX7_readMacro_144 rfl (lv_at hl 2 rfl) ?_
        refine lv_iconst (v := (nI 0)) hx hb dX7_readMacro_145 (by decide) ?_
        obtain ⟨g, hf⟩ := ite_g hf
        refine r_iast X hH (a_42 E) g dX7_readMacro_146 (fun H locs hH => ?_)
        obtain ⟨S8, ex, hf⟩ := bnd_go hf
        replace hH := HH_eq ex hH
        clear ex
        exact w_X7_readMacro_147 X N N S8 x1 x2 hf _ _ hH _ (lv_sub hl [0, 1, 2] rfl)
      · replace hf := ite_t c0 hf
        refine lv_iconst (v := (nI 0)) hx hb dX7_readMacro_110 (by decide) ?_
        exact r_zret X hH (by decide) hf dX7_readMacro_111
  · replace hf := ite_t c0 hf
    refine lv_iconst (v := (nI 0)) hx hb dX7_readMacro_71 (by decide) ?_
    exact r_zret X hH (by decide) hf dX7_readMacro_72
set_option maxRecDepth 100000 in
set_option maxHeartbeats 4000000 in
theorem w_X7_readMacro_21 {p : Program} {l : Launch} {e : Env} {s : State} {m : MethodId} {args : Array Value} {below : List Frame} {meth : Method} {c : Code} {E : Ev} {r : Int32} {S1 : St} (X : GX p s m meth c args cX7_readMacro 4 (some .boolean) RX7 E) (N : Nat) : ∀ (S : St) (x1 : Int32) (x2 : Int32) (xs0 : Int32), f_X7_readMacro_21 N S x1 x2 xs0 = some (r, S1) → ∀ (H : Heap) (locs : List Loc), HH E S s H locs → ∀ ls : Array Slot, lv_has ls 4 [(0, .ref (bb E 32)), (1, .int x1), (2, .int x2)] → W p l e (rmL 3) s m args below meth c H locs 0 0 (MQ below (QI E r S1 s.heap.size) args s 0 0 (AA E s.heap.size)) (F0 m 21 ls [.int xs0]) := by
  have hx := X.1
  have hb := X.2.1
  intro S x1 x2 xs0 hf H locs hH ls hl
  rw [f_X7_readMacro_21] at hf
  refine lv_istore_n (lv' := [(3, .int xs0), (0, .ref (bb E 32)), (1, .int x1), (2, .int x2)]) hx hb dX7_readMacro_21 rfl hl (by decide) rfl (fun ls hl => ?_)
  refine lv_aload_n hx hb dX7_readMacro_22 rfl (lv_at hl 1 rfl) ?_
  refine fg_X7_31 X hH dX7_readMacro_23 ?_
  refine lv_iload_n hx hb dX7_readMacro_26 rfl (lv_at hl 3 rfl) ?_
  refine lv_iload_n hx hb dX7_readMacro_27 rfl (lv_at hl 0 rfl) ?_
  refine lv_bipush (v := (nI 112)) hx hb dX7_readMacro_28 (by decide) ?_
  refine lv_icmp_ne (tgt := 37) hx hb dX7_readMacro_30 (by decide) (fun c0 => ?_) (fun c0 => ?_)
  · replace hf := ite_f c0 hf
    refine lv_iload_n hx hb dX7_readMacro_37 rfl (lv_at hl 0 rfl) ?_
    refine lv_bipush (v := (nI 98)) hx hb dX7_readMacro_38 (by decide) ?_
    refine lv_icmp_ne (tgt := 47) hx hb dX7_readMacro_40 (by decide) (fun c0 => ?_) (fun c0 => ?_)
    · replace hf := ite_f c0 hf
      refine lv_iload_n hx hb dX7_readMacro_47 rfl (lv_at hl 0 rfl) ?_
      refine lv_bipush (v := (nI 101)) hx hb dX7_readMacro_48 (by decide) ?_
      refine lv_icmp_ne (tgt := 57) hx hb dX7_readMacro_50 (by decide) (fun c0 => ?_) (fun c0 => ?_)
      · replace hf := ite_f c0 hf
        refine lv_bipush (v := (-9 : Int32)) hx hb dX7_readMacro_57 (by decide) ?_
        exact w_X7_readMacro_59 X N S x1 x2 (-9 : Int32) x2 hf _ _ hH _ (lv_sub hl [1, 2, 3] rfl)
      · replace hf := ite_t c0 hf
        refine lv_iconst (v := (nI 2)) hx hb dX7_readMacro_53 (by decide) ?_
        refine lv_goto (tgt := 59) hx hb dX7_readMacro_54 (by decide) ?_
        exact w_X7_readMacro_59 X N S x1 x2 (nI 2) x2 hf _ _ hH _ (lv_sub hl [1, 2, 3] rfl)
    · replace hf := ite_t c0 hf
      refine lv_iconst (v := (nI 1)) hx hb dX7_readMacro_43 (by decide) ?_
      refine lv_goto (tgt := 59) hx hb dX7_readMacro_44 (by decide) ?_
      exact w_X7_readMacro_59 X N S x1 x2 (nI 1) x2 hf _ _ hH _ (lv_sub hl [1, 2, 3] rfl)
  · replace hf := ite_t c0 hf
    refine lv_iconst (v := (nI 0)) hx hb dX7_readMacro_33 (by decide) ?_
    refine lv_goto (tgt := 59) hx hb dX7_readMacro_34 (by decide) ?_
    exact w_X7_readMacro_59 X N S x1 x2 (nI 0) x2 hf _ _ hH _ (lv_sub hl [1, 2, 3] rfl)
set_option maxRecDepth 100000 in
set_option maxHeartbeats 4000000 in
theorem w_X7_readMacro_0 {p : Program} {l : Launch} {e : Env} {s : State} {m : MethodId} {args : Array Value} {below : List Frame} {meth : Method} {c : Code} {E : Ev} {r : Int32} {S1 : St} (X : GX p s m meth c args cX7_readMacro 4 (some .boolean) RX7 E) (N : Nat) : ∀ (S : St) (x1 : Int32) (x2 : Int32), f_X7_readMacro N S x1 x2 = some (r, S1) → ∀ (H : Heap) (locs : List Loc), HH E S s H locs → ∀ ls : Array Slot, lv_has ls 4 [(0, .ref (bb E 32)), (1, .int x1), (2, .int x2)] → W p l e (rmL 3) s m args below meth c H locs 0 0 (MQ below (QI E r S1 s.heap.size) args s 0 0 (AA E s.heap.size)) (F0 m 0 ls []) := by
  have hx := X.1
  have hb := X.2.1
  intro S x1 x2 hf H locs hH ls hl
  rw [f_X7_readMacro] at hf
  refine lv_aload_n hx hb dX7_readMacro_0 rfl (lv_at hl 0 rfl) ?_
  refine fg_X7_102 X hH dX7_readMacro_1 ?_
  refine lv_iload_n hx hb dX7_readMacro_4 rfl (lv_at hl 1 rfl) ?_
  refine lv_icmp_ge (tgt := 20) hx hb dX7_readMacro_5 (by decide) (fun c0 => ?_) (fun c0 => ?_)
  · replace hf := ite_t c0 hf
    refine lv_iconst (v := (nI 0)) hx hb dX7_readMacro_20 (by decide) ?_
    exact w_X7_readMacro_21 X N S x1 x2 (nI 0) hf _ _ hH _ (lv_sub hl [0, 1, 2] rfl)
  · replace hf := ite_f c0 hf
    refine lv_aload_n hx hb dX7_readMacro_8 rfl (lv_at hl 0 rfl) ?_
    refine fg_X7_16 X hH dX7_readMacro_9 ?_
    refine lv_aload_n hx hb dX7_readMacro_12 rfl (lv_at hl 0 rfl) ?_
    refine fg_X7_102 X hH dX7_readMacro_13 ?_
    obtain ⟨g, hf⟩ := ite_g hf
    refine r_iald X hH (a_35 E) g dX7_readMacro_16 ?_
    refine lv_goto (tgt := 21) hx hb dX7_readMacro_17 (by decide) ?_
    exact w_X7_readMacro_21 X N S x1 x2 (S 35 (S 32 12).toNatClampNeg) hf _ _ hH _ (lv_sub hl [0, 1, 2] rfl)
theorem c_X7_readMacro {l : Launch} {E : Ev} (N : Nat) (S : St) (x1 : Int32) (x2 : Int32) {r : Int32} {S1 : St} (hf : f_X7_readMacro N S x1 x2 = some (r, S1)) : Ct l yX7_readMacro (.code yX7_readMacro cX7_readMacro 4 (some .boolean)) 3 E [.ref (bb E 32), .int x1, .int x2] S (QI E r S1) := by
  refine Ct.of (by decide) (Nat.le_of_ble_eq_true rfl) (fun p e s m below meth c ls X hH hl => ?_)
  exact w_X7_readMacro_0 X N S x1 x2 hf _ _ hH _ hl
set_option maxRecDepth 100000 in
set_option maxHeartbeats 4000000 in
theorem w_X7_readMacrosAll_123 {p : Program} {l : Launch} {e : Env} {s : State} {m : MethodId} {args : Array Value} {below : List Frame} {meth : Method} {c : Code} {E : Ev} {r : Int32} {S1 : St} (X : GX p s m meth c args cX7_readMacrosAll 2 (some .boolean) RX7 E) (N : Nat) : ∀ (S : St) (x1 : Int32), f_X7_readMacrosAll_123 N S x1 = some (r, S1) → ∀ (H : Heap) (locs : List Loc), HH E S s H locs → ∀ ls : Array Slot, lv_has ls 2 [(0, .ref (bb E 32)), (1, .int x1)] → W p l e (rmL 4) s m args below meth c H locs 0 0 (MQ below (QI E r S1 s.heap.size) args s 0 0 (AA E s.heap.size)) (F0 m 123 ls []) := by
  have hx := X.1
  have hb := X.2.1
  intro S x1 hf H locs hH ls hl
  rw [f_X7_readMacrosAll_123] at hf
  refine lv_aload_n hx hb dX7_readMacrosAll_123 rfl (lv_at hl 0 rfl) ?_
  refine fg_X7_102 X hH dX7_readMacrosAll_124 ?_
  refine lv_iload_n hx hb dX7_readMacrosAll_127 rfl (lv_at hl 1 rfl) ?_
  refine lv_icmp_ne (tgt := 135) hx hb dX7_readMacrosAll_128 (by decide) (fun c0 => ?_) (fun c0 => ?_)
  · replace hf := ite_f c0 hf
    refine lv_iconst (v := (nI 0)) hx hb dX7_readMacrosAll_135 (by decide) ?_
    exact r_zret X hH (by decide) hf dX7_readMacrosAll_136
  · replace hf := ite_t c0 hf
    refine lv_iconst (v := (nI 1)) hx hb dX7_readMacrosAll_131 (by decide) ?_
    refine lv_goto (tgt := 136) hx hb dX7_readMacrosAll_132 (by decide) ?_
    exact r_zret X hH (by decide) hf dX7_readMacrosAll_136
set_option maxRecDepth 100000 in
set_option maxHeartbeats 4000000 in
theorem w_X7_readMacrosAll_62 {p : Program} {l : Launch} {e : Env} {s : State} {m : MethodId} {args : Array Value} {below : List Frame} {meth : Method} {c : Code} {E : Ev} {r : Int32} {S1 : St} (X : GX p s m meth c args cX7_readMacrosAll 2 (some .boolean) RX7 E) (N : Nat) (k39 : St → Int32 → Option (Int32 × St)) (hk39 : ∀ (S : St) (x1 : Int32), k39 S x1 = some (r, S1) → ∀ (H : Heap) (locs : List Loc), HH E S s H locs → ∀ ls : Array Slot, lv_has ls 2 [(0, .ref (bb E 32)), (1, .int x1)] → W p l e (rmL 4) s m args below meth c H locs 0 0 (MQ below (QI E r S1 s.heap.size) args s 0 0 (AA E s.heap.size)) (F0 m 39 ls [])) : ∀ (S : St) (x1 : Int32), f_X7_readMacrosAll_62 N k39 S x1 = some (r, S1) → ∀ (H : Heap) (locs : List Loc), HH E S s H locs → ∀ ls : Array Slot, lv_has ls 2 [(0, .ref (bb E 32)), (1, .int x1)] → W p l e (rmL 4) s m args below meth c H locs 0 0 (MQ below (QI E r S1 s.heap.size) args s 0 0 (AA E s.heap.size)) (F0 m 62 ls []) := by
  have hx := X.1
  have hb := X.2.1
  intro S x1 hf H locs hH ls hl
  rw [f_X7_readMacrosAll_62] at hf
  refine lv_aload_n hx hb dX7_readMacrosAll_62 rfl (lv_at hl 0 rfl) ?_
  refine fg_X7_102 X hH dX7_readMacrosAll_63 ?_
  refine lv_iload_n hx hb dX7_readMacrosAll_66 rfl (lv_at hl 1 rfl) ?_
  refine lv_icmp_ge (tgt := 84) hx hb dX7_readMacrosAll_67 (by decide) (fun c0 => ?_) (fun c0 => ?_)
  · replace hf := ite_t c0 hf
    refine lv_iconst (v := (nI 0)) hx hb dX7_readMacrosAll_84 (by decide) ?_
    exact r_zret X hH (by decide) hf dX7_readMacrosAll_85
  · replace hf := ite_f c0 hf
    refine lv_aload_n hx hb dX7_readMacrosAll_70 rfl (lv_at hl 0 rfl) ?_
    refine fg_X7_16 X hH dX7_readMacrosAll_71 ?_
    refine lv_aload_n hx hb dX7_readMacrosAll_74 rfl (lv_at hl 0 rfl) ?_
    refine fg_X7_102 X hH dX7_readMacrosAll_75 ?_
    obtain ⟨g, hf⟩ := ite_g hf
    refine r_iald X hH (a_35 E) g dX7_readMacrosAll_78 ?_
    refine lv_bipush (v := (nI 59)) hx hb dX7_readMacrosAll_79 (by decide) ?_
    refine lv_icmp_eq (tgt := 86) hx hb dX7_readMacrosAll_81 (by decide) (fun c0 => ?_) (fun c0 => ?_)
    · replace hf := ite_t c0 hf
      refine lv_aload_n hx hb dX7_readMacrosAll_86 rfl (lv_at hl 0 rfl) ?_
      refine lv_dup hx hb dX7_readMacrosAll_87 rfl ?_
      refine fg_X7_102 X hH dX7_readMacrosAll_88 ?_
      refine lv_iconst (v := (nI 1)) hx hb dX7_readMacrosAll_91 (by decide) ?_
      refine lv_iadd hx hb dX7_readMacrosAll_92 ?_
      refine fp_X7_102 X hH dX7_readMacrosAll_93 (fun H locs hH => ?_)
      obtain ⟨S1, ex, hf⟩ := bnd_go hf
      replace hH := HH_eq ex hH
      clear ex
      refine lv_aload_n hx hb dX7_readMacrosAll_96 rfl (lv_at hl 0 rfl) ?_
      refine lv_iload_n hx hb dX7_readMacrosAll_97 rfl (lv_at hl 1 rfl) ?_
      refine lv_aload_n hx hb dX7_readMacrosAll_98 rfl (lv_at hl 0 rfl) ?_
      refine fg_X7_108 X hH dX7_readMacrosAll_99 ?_
      obtain ⟨r4, S2, h3, hf⟩ := cal_g hf
      refine go_i hH (run_V X hH (rest := []) (c_X7_readMacro N S1 x1 (S1 32 13) h3) gm_X7_124 (by decide) (e_32 E _) rfl rfl hl.1 (rmL_ok (by decide) (by decide)) (Nat.le_of_ble_eq_true rfl) rfl dX7_readMacrosAll_102) (fun H locs hH => ?_)
      clear h3
      refine lv_if_ne (tgt := 110) hx hb dX7_readMacrosAll_105 (by decide) (fun c0 => ?_) (fun c0 => ?_)
      · replace hf := ite_f c0 hf
        refine lv_aload_n hx hb dX7_readMacrosAll_110 rfl (lv_at hl 0 rfl) ?_
        refine lv_dup hx hb dX7_readMacrosAll_111 rfl ?_
        refine fg_X7_108 X hH dX7_readMacrosAll_112 ?_
        refine lv_iconst (v := (nI 1)) hx hb dX7_readMacrosAll_115 (by decide) ?_
        refine lv_iadd hx hb dX7_readMacrosAll_116 ?_
        refine fp_X7_108 X hH dX7_readMacrosAll_117 (fun H locs hH => ?_)
        obtain ⟨S5, ex, hf⟩ := bnd_go hf
        replace hH := HH_eq ex hH
        clear ex
        refine lv_goto (tgt := 39) hx hb dX7_readMacrosAll_120 (by decide) ?_
        exact hk39 S5 x1 hf _ _ hH _ (lv_sub hl [0, 1] rfl)
      · replace hf := ite_t c0 hf
        refine lv_iconst (v := (nI 0)) hx hb dX7_readMacrosAll_108 (by decide) ?_
        exact r_zret X hH (by decide) hf dX7_readMacrosAll_109
    · replace hf := ite_f c0 hf
      refine lv_iconst (v := (nI 0)) hx hb dX7_readMacrosAll_84 (by decide) ?_
      exact r_zret X hH (by decide) hf dX7_readMacrosAll_85
set_option maxRecDepth 100000 in
set_option maxHeartbeats 4000000 in
theorem w_X7_readMacrosAll_39 {p : Program} {l : Launch} {e : Env} {s : State} {m : MethodId} {args : Array Value} {below : List Frame} {meth : Method} {c : Code} {E : Ev} {r : Int32} {S1 : St} (X : GX p s m meth c args cX7_readMacrosAll 2 (some .boolean) RX7 E) (N : Nat) : ∀ (n : Nat) (S : St) (x1 : Int32), f_X7_readMacrosAll_39 N n S x1 = some (r, S1) → ∀ (H : Heap) (locs : List Loc), HH E S s H locs → ∀ ls : Array Slot, lv_has ls 2 [(0, .ref (bb E 32)), (1, .int x1)] → W p l e (rmL 4) s m args below meth c H locs 0 0 (MQ below (QI E r S1 s.heap.size) args s 0 0 (AA E s.heap.size)) (F0 m 39 ls []) := by
  have hx := X.1
  have hb := X.2.1
  intro n
  induction n with
  | zero =>
    intro S x1 hf
    cases hf
  | succ n ih =>
    intro S x1 hf H locs hH ls hl
    rw [f_X7_readMacrosAll_39] at hf
    refine lv_aload_n hx hb dX7_readMacrosAll_39 rfl (lv_at hl 0 rfl) ?_
    refine fg_X7_108 X hH dX7_readMacrosAll_40 ?_
    refine lv_if_eq (tgt := 62) hx hb dX7_readMacrosAll_43 (by decide) (fun c0 => ?_) (fun c0 => ?_)
    · replace hf := ite_t c0 hf
      exact w_X7_readMacrosAll_62 X N (f_X7_readMacrosAll_39 N n) ih S x1 hf _ _ hH _ (lv_sub hl [0, 1] rfl)
    · replace hf := ite_f c0 hf
      refine lv_aload_n hx hb dX7_readMacrosAll_46 rfl (lv_at hl 0 rfl) ?_
      refine fg_X7_108 X hH dX7_readMacrosAll_47 ?_
      refine lv_iconst (v := (nI 3)) hx hb dX7_readMacrosAll_50 (by decide) ?_
      refine lv_icmp_ge (tgt := 123) hx hb dX7_readMacrosAll_51 (by decide) (fun c0 => ?_) (fun c0 => ?_)
      · replace hf := ite_t c0 hf
        exact w_X7_readMacrosAll_123 X N S x1 hf _ _ hH _ (lv_sub hl [0, 1] rfl)
      · replace hf := ite_f c0 hf
        refine lv_aload_n hx hb dX7_readMacrosAll_54 rfl (lv_at hl 0 rfl) ?_
        refine fg_X7_102 X hH dX7_readMacrosAll_55 ?_
        refine lv_iload_n hx hb dX7_readMacrosAll_58 rfl (lv_at hl 1 rfl) ?_
        refine lv_icmp_ge (tgt := 123) hx hb dX7_readMacrosAll_59 (by decide) (fun c0 => ?_) (fun c0 => ?_)
        · replace hf := ite_t c0 hf
          exact w_X7_readMacrosAll_123 X N S x1 hf _ _ hH _ (lv_sub hl [0, 1] rfl)
        · replace hf := ite_f c0 hf
          exact w_X7_readMacrosAll_62 X N (f_X7_readMacrosAll_39 N n) ih S x1 hf _ _ hH _ (lv_sub hl [0, 1] rfl)
set_option maxRecDepth 100000 in
set_option maxHeartbeats 4000000 in
theorem w_X7_readMacrosAll_0 {p : Program} {l : Launch} {e : Env} {s : State} {m : MethodId} {args : Array Value} {below : List Frame} {meth : Method} {c : Code} {E : Ev} {r : Int32} {S1 : St} (X : GX p s m meth c args cX7_readMacrosAll 2 (some .boolean) RX7 E) (N : Nat) : ∀ (S : St) (x1 : Int32), f_X7_readMacrosAll N S x1 = some (r, S1) → ∀ (H : Heap) (locs : List Loc), HH E S s H locs → ∀ ls : Array Slot, lv_has ls 2 [(0, .ref (bb E 32)), (1, .int x1)] → W p l e (rmL 4) s m args below meth c H locs 0 0 (MQ below (QI E r S1 s.heap.size) args s 0 0 (AA E s.heap.size)) (F0 m 0 ls []) := by
  have hx := X.1
  have hb := X.2.1
  intro S x1 hf H locs hH ls hl
  rw [f_X7_readMacrosAll] at hf
  refine lv_aload_n hx hb dX7_readMacrosAll_0 rfl (lv_at hl 0 rfl) ?_
  refine lv_iconst (v := (nI 0)) hx hb dX7_readMacrosAll_1 (by decide) ?_
  refine fp_X7_108 X hH dX7_readMacrosAll_2 (fun H locs hH => ?_)
  obtain ⟨S1, ex, hf⟩ := bnd_go hf
  replace hH := HH_eq ex hH
  clear ex
  refine lv_aload_n hx hb dX7_readMacrosAll_5 rfl (lv_at hl 0 rfl) ?_
  refine fg_X7_102 X hH dX7_readMacrosAll_6 ?_
  refine lv_iload_n hx hb dX7_readMacrosAll_9 rfl (lv_at hl 1 rfl) ?_
  refine lv_icmp_ge (tgt := 27) hx hb dX7_readMacrosAll_10 (by decide) (fun c0 => ?_) (fun c0 => ?_)
  · replace hf := ite_t c0 hf
    refine lv_iconst (v := (nI 0)) hx hb dX7_readMacrosAll_27 (by decide) ?_
    exact r_zret X hH (by decide) hf dX7_readMacrosAll_28
  · replace hf := ite_f c0 hf
    refine lv_aload_n hx hb dX7_readMacrosAll_13 rfl (lv_at hl 0 rfl) ?_
    refine fg_X7_16 X hH dX7_readMacrosAll_14 ?_
    refine lv_aload_n hx hb dX7_readMacrosAll_17 rfl (lv_at hl 0 rfl) ?_
    refine fg_X7_102 X hH dX7_readMacrosAll_18 ?_
    obtain ⟨g, hf⟩ := ite_g hf
    refine r_iald X hH (a_35 E) g dX7_readMacrosAll_21 ?_
    refine lv_bipush (v := (nI 107)) hx hb dX7_readMacrosAll_22 (by decide) ?_
    refine lv_icmp_eq (tgt := 29) hx hb dX7_readMacrosAll_24 (by decide) (fun c0 => ?_) (fun c0 => ?_)
    · replace hf := ite_t c0 hf
      refine lv_aload_n hx hb dX7_readMacrosAll_29 rfl (lv_at hl 0 rfl) ?_
      refine lv_dup hx hb dX7_readMacrosAll_30 rfl ?_
      refine fg_X7_102 X hH dX7_readMacrosAll_31 ?_
      refine lv_iconst (v := (nI 1)) hx hb dX7_readMacrosAll_34 (by decide) ?_
      refine lv_iadd hx hb dX7_readMacrosAll_35 ?_
      refine fp_X7_102 X hH dX7_readMacrosAll_36 (fun H locs hH => ?_)
      obtain ⟨S2, ex, hf⟩ := bnd_go hf
      replace hH := HH_eq ex hH
      clear ex
      exact w_X7_readMacrosAll_39 X N N S2 x1 hf _ _ hH _ (lv_sub hl [0, 1] rfl)
    · replace hf := ite_f c0 hf
      refine lv_iconst (v := (nI 0)) hx hb dX7_readMacrosAll_27 (by decide) ?_
      exact r_zret X hH (by decide) hf dX7_readMacrosAll_28
theorem c_X7_readMacrosAll {l : Launch} {E : Ev} (N : Nat) (S : St) (x1 : Int32) {r : Int32} {S1 : St} (hf : f_X7_readMacrosAll N S x1 = some (r, S1)) : Ct l yX7_readMacrosAll (.code yX7_readMacrosAll cX7_readMacrosAll 2 (some .boolean)) 4 E [.ref (bb E 32), .int x1] S (QI E r S1) := by
  refine Ct.of (by decide) (Nat.le_of_ble_eq_true rfl) (fun p e s m below meth c ls X hH hl => ?_)
  exact w_X7_readMacrosAll_0 X N S x1 hf _ _ hH _ hl
set_option maxRecDepth 100000 in
set_option maxHeartbeats 4000000 in
theorem w_X7_macros_149 {p : Program} {l : Launch} {e : Env} {s : State} {m : MethodId} {args : Array Value} {below : List Frame} {meth : Method} {c : Code} {E : Ev} {r : Int32} {S1 : St} (X : GX p s m meth c args cX7_macros 9 (some .int) RX7 E) (N : Nat) (k95 : St → Int32 → Option (Int32 × St)) (hk95 : ∀ (S : St) (x7 : Int32), k95 S x7 = some (r, S1) → ∀ (H : Heap) (locs : List Loc), HH E S s H locs → ∀ ls : Array Slot, lv_has ls 9 [(0, .ref (bb E 32)), (7, .int x7)] → W p l e (rmL 5) s m args below meth c H locs 0 0 (MQ below (QI E r S1 s.heap.size) args s 0 0 (AA E s.heap.size)) (F0 m 95 ls [])) : ∀ (n : Nat) (S : St) (x7 : Int32) (x8 : Int32), f_X7_macros_149 N k95 n S x7 x8 = some (r, S1) → ∀ (H : Heap) (locs : List Loc), HH E S s H locs → ∀ ls : Array Slot, lv_has ls 9 [(0, .ref (bb E 32)), (7, .int x7), (8, .int x8)] → W p l e (rmL 5) s m args below meth c H locs 0 0 (MQ below (QI E r S1 s.heap.size) args s 0 0 (AA E s.heap.size)) (F0 m 149 ls []) := by
  have hx := X.1
  have hb := X.2.1
  intro n
  induction n with
  | zero =>
    intro S x7 x8 hf
    cases hf
  | succ n ih =>
    intro S x7 x8 hf H locs hH ls hl
    rw [f_X7_macros_149] at hf
    refine lv_iload hx hb dX7_macros_149 (lv_at hl 2 rfl) ?_
    refine lv_iconst (v := (nI 4)) hx hb dX7_macros_151 (by decide) ?_
    refine lv_icmp_ge (tgt := 185) hx hb dX7_macros_152 (by decide) (fun c0 => ?_) (fun c0 => ?_)
    · replace hf := ite_t c0 hf
      obtain ⟨y1, ex, hf⟩ := bnd_go hf
      refine lv_iinc (v := y1) (lv' := [(7, .int y1), (0, .ref (bb E 32)), (8, .int x8)]) hx hb dX7_macros_185 hl (k := 1) rfl (by rw [ex]; rfl) (by decide) rfl (fun ls hl => ?_)
      clear ex
      refine lv_goto (tgt := 95) hx hb dX7_macros_188 (by decide) ?_
      exact hk95 S y1 hf _ _ hH _ (lv_sub hl [1, 0] rfl)
    · replace hf := ite_f c0 hf
      refine lv_aload_n hx hb dX7_macros_155 rfl (lv_at hl 0 rfl) ?_
      refine fg_X7_28 X hH dX7_macros_156 ?_
      refine lv_iconst (v := (nI 4)) hx hb dX7_macros_159 (by decide) ?_
      refine lv_iload hx hb dX7_macros_160 (lv_at hl 1 rfl) ?_
      refine lv_imul hx hb dX7_macros_162 ?_
      refine lv_iload hx hb dX7_macros_163 (lv_at hl 2 rfl) ?_
      refine lv_iadd hx hb dX7_macros_165 ?_
      refine lv_aload_n hx hb dX7_macros_166 rfl (lv_at hl 0 rfl) ?_
      refine fg_X7_40 X hH dX7_macros_167 ?_
      refine lv_iconst (v := (nI 4)) hx hb dX7_macros_170 (by decide) ?_
      refine lv_iload hx hb dX7_macros_171 (lv_at hl 1 rfl) ?_
      refine lv_imul hx hb dX7_macros_173 ?_
      refine lv_iload hx hb dX7_macros_174 (lv_at hl 2 rfl) ?_
      refine lv_iadd hx hb dX7_macros_176 ?_
      obtain ⟨g, hf⟩ := ite_g hf
      refine r_iald X hH (a_43 E) g dX7_macros_177 ?_
      obtain ⟨g, hf⟩ := ite_g hf
      refine r_iast X hH (a_39 E) g dX7_macros_178 (fun H locs hH => ?_)
      obtain ⟨S2, ex, hf⟩ := bnd_go hf
      replace hH := HH_eq ex hH
      clear ex
      obtain ⟨y3, ex, hf⟩ := bnd_go hf
      refine lv_iinc (v := y3) (lv' := [(8, .int y3), (0, .ref (bb E 32)), (7, .int x7)]) hx hb dX7_macros_179 hl (k := 2) rfl (by rw [ex]; rfl) (by decide) rfl (fun ls hl => ?_)
      clear ex
      refine lv_goto (tgt := 149) hx hb dX7_macros_182 (by decide) ?_
      exact ih S2 x7 y3 hf _ _ hH _ (lv_sub hl [1, 2, 0] rfl)
set_option maxRecDepth 100000 in
set_option maxHeartbeats 4000000 in
theorem w_X7_macros_95 {p : Program} {l : Launch} {e : Env} {s : State} {m : MethodId} {args : Array Value} {below : List Frame} {meth : Method} {c : Code} {E : Ev} {r : Int32} {S1 : St} (X : GX p s m meth c args cX7_macros 9 (some .int) RX7 E) (N : Nat) : ∀ (n : Nat) (S : St) (x7 : Int32), f_X7_macros_95 N n S x7 = some (r, S1) → ∀ (H : Heap) (locs : List Loc), HH E S s H locs → ∀ ls : Array Slot, lv_has ls 9 [(0, .ref (bb E 32)), (7, .int x7)] → W p l e (rmL 5) s m args below meth c H locs 0 0 (MQ below (QI E r S1 s.heap.size) args s 0 0 (AA E s.heap.size)) (F0 m 95 ls []) := by
  have hx := X.1
  have hb := X.2.1
  intro n
  induction n with
  | zero =>
    intro S x7 hf
    cases hf
  | succ n ih =>
    intro S x7 hf H locs hH ls hl
    rw [f_X7_macros_95] at hf
    refine lv_iload hx hb dX7_macros_95 (lv_at hl 1 rfl) ?_
    refine lv_aload_n hx hb dX7_macros_97 rfl (lv_at hl 0 rfl) ?_
    refine fg_X7_84 X hH dX7_macros_98 ?_
    refine lv_icmp_ge (tgt := 191) hx hb dX7_macros_101 (by decide) (fun c0 => ?_) (fun c0 => ?_)
    · replace hf := ite_t c0 hf
      refine lv_aload_n hx hb dX7_macros_191 rfl (lv_at hl 0 rfl) ?_
      refine lv_iconst (v := (nI 0)) hx hb dX7_macros_192 (by decide) ?_
      refine fp_X7_111 X hH dX7_macros_193 (fun H locs hH => ?_)
      obtain ⟨S1, ex, hf⟩ := bnd_go hf
      replace hH := HH_eq ex hH
      clear ex
      refine lv_aload_n hx hb dX7_macros_196 rfl (lv_at hl 0 rfl) ?_
      refine lv_iconst (v := (nI 0)) hx hb dX7_macros_197 (by decide) ?_
      refine fp_X7_114 X hH dX7_macros_198 (fun H locs hH => ?_)
      obtain ⟨S2, ex, hf⟩ := bnd_go hf
      replace hH := HH_eq ex hH
      clear ex
      refine lv_aload_n hx hb dX7_macros_201 rfl (lv_at hl 0 rfl) ?_
      refine lv_iconst (v := (nI 0)) hx hb dX7_macros_202 (by decide) ?_
      refine fp_X7_117 X hH dX7_macros_203 (fun H locs hH => ?_)
      obtain ⟨S3, ex, hf⟩ := bnd_go hf
      replace hH := HH_eq ex hH
      clear ex
      refine lv_aload_n hx hb dX7_macros_206 rfl (lv_at hl 0 rfl) ?_
      refine lv_iconst (v := (nI 0)) hx hb dX7_macros_207 (by decide) ?_
      refine fp_X7_120 X hH (by decide) dX7_macros_208 (fun H locs hH => ?_)
      obtain ⟨S4, ex, hf⟩ := bnd_go hf
      replace hH := HH_eq ex hH
      clear ex
      refine lv_aload_n hx hb dX7_macros_211 rfl (lv_at hl 0 rfl) ?_
      refine fg_X7_84 X hH dX7_macros_212 ?_
      exact r_iret X hH hf dX7_macros_215
    · replace hf := ite_f c0 hf
      refine lv_aload_n hx hb dX7_macros_104 rfl (lv_at hl 0 rfl) ?_
      refine fg_X7_19 X hH dX7_macros_105 ?_
      refine lv_iload hx hb dX7_macros_108 (lv_at hl 1 rfl) ?_
      refine lv_aload_n hx hb dX7_macros_110 rfl (lv_at hl 0 rfl) ?_
      refine fg_X7_31 X hH dX7_macros_111 ?_
      refine lv_iload hx hb dX7_macros_114 (lv_at hl 1 rfl) ?_
      obtain ⟨g, hf⟩ := ite_g hf
      refine r_iald X hH (a_40 E) g dX7_macros_116 ?_
      obtain ⟨g, hf⟩ := ite_g hf
      refine r_iast X hH (a_36 E) g dX7_macros_117 (fun H locs hH => ?_)
      obtain ⟨S5, ex, hf⟩ := bnd_go hf
      replace hH := HH_eq ex hH
      clear ex
      refine lv_aload_n hx hb dX7_macros_118 rfl (lv_at hl 0 rfl) ?_
      refine fg_X7_22 X hH dX7_macros_119 ?_
      refine lv_iload hx hb dX7_macros_122 (lv_at hl 1 rfl) ?_
      refine lv_aload_n hx hb dX7_macros_124 rfl (lv_at hl 0 rfl) ?_
      refine fg_X7_34 X hH dX7_macros_125 ?_
      refine lv_iload hx hb dX7_macros_128 (lv_at hl 1 rfl) ?_
      obtain ⟨g, hf⟩ := ite_g hf
      refine r_iald X hH (a_41 E) g dX7_macros_130 ?_
      obtain ⟨g, hf⟩ := ite_g hf
      refine r_iast X hH (a_37 E) g dX7_macros_131 (fun H locs hH => ?_)
      obtain ⟨S6, ex, hf⟩ := bnd_go hf
      replace hH := HH_eq ex hH
      clear ex
      refine lv_aload_n hx hb dX7_macros_132 rfl (lv_at hl 0 rfl) ?_
      refine fg_X7_25 X hH dX7_macros_133 ?_
      refine lv_iload hx hb dX7_macros_136 (lv_at hl 1 rfl) ?_
      refine lv_aload_n hx hb dX7_macros_138 rfl (lv_at hl 0 rfl) ?_
      refine fg_X7_37 X hH dX7_macros_139 ?_
      refine lv_iload hx hb dX7_macros_142 (lv_at hl 1 rfl) ?_
      obtain ⟨g, hf⟩ := ite_g hf
      refine r_iald X hH (a_42 E) g dX7_macros_144 ?_
      obtain ⟨g, hf⟩ := ite_g hf
      refine r_iast X hH (a_38 E) g dX7_macros_145 (fun H locs hH => ?_)
      obtain ⟨S7, ex, hf⟩ := bnd_go hf
      replace hH := HH_eq ex hH
      clear ex
      refine lv_iconst (v := (nI 0)) hx hb dX7_macros_146 (by decide) ?_
      refine lv_topi (fun y8 ex => ?_)
      replace hf := bnd_at ex hf
      clear ex
      refine lv_istore (lv' := [(8, .int y8), (0, .ref (bb E 32)), (7, .int x7)]) hx hb dX7_macros_147 hl (by decide) rfl (fun ls hl => ?_)
      exact w_X7_macros_149 X N (f_X7_macros_95 N n) ih N S7 x7 y8 hf _ _ hH _ (lv_sub hl [1, 2, 0] rfl)
set_option maxRecDepth 100000 in
set_option maxHeartbeats 4000000 in
theorem w_X7_macros_0 {p : Program} {l : Launch} {e : Env} {s : State} {m : MethodId} {args : Array Value} {below : List Frame} {meth : Method} {c : Code} {E : Ev} {r : Int32} {S1 : St} (X : GX p s m meth c args cX7_macros 9 (some .int) RX7 E) (N : Nat) : ∀ (S : St) (x1 : Int32) (x2 : Int32) (x3 : Int32) (x4 : Int32), f_X7_macros N S x1 x2 x3 x4 = some (r, S1) → ∀ (H : Heap) (locs : List Loc), HH E S s H locs → ∀ ls : Array Slot, lv_has ls 9 [(0, .ref (bb E 32)), (1, .int x1), (2, .int x2), (3, .int x3), (4, .int x4)] → W p l e (rmL 5) s m args below meth c H locs 0 0 (MQ below (QI E r S1 s.heap.size) args s 0 0 (AA E s.heap.size)) (F0 m 0 ls []) := by
  have hx := X.1
  have hb := X.2.1
  intro S x1 x2 x3 x4 hf H locs hH ls hl
  rw [f_X7_macros] at hf
  refine lv_aload_n hx hb dX7_macros_0 rfl (lv_at hl 0 rfl) ?_
  refine lv_iconst (v := (nI 0)) hx hb dX7_macros_1 (by decide) ?_
  refine fp_X7_74 X hH dX7_macros_2 (fun H locs hH => ?_)
  obtain ⟨S1, ex, hf⟩ := bnd_go hf
  replace hH := HH_eq ex hH
  clear ex
  refine lv_iload_n hx hb dX7_macros_5 rfl (lv_at hl 1 rfl) ?_
  obtain ⟨r4, S2, h3, hf⟩ := cal_g hf
  refine go_i hH (run_S X hH (rest := []) (c_X7_isSheet N S1 x1 h3) gm_X7_87 rfl hl.1 (rmL_ok (by decide) (by decide)) (Nat.le_of_ble_eq_true rfl) rfl dX7_macros_6) (fun H locs hH => ?_)
  clear h3
  refine lv_if_ne (tgt := 14) hx hb dX7_macros_9 (by decide) (fun c0 => ?_) (fun c0 => ?_)
  · replace hf := ite_f c0 hf
    refine lv_iload_n hx hb dX7_macros_14 rfl (lv_at hl 2 rfl) ?_
    obtain ⟨r7, S5, h6, hf⟩ := cal_g hf
    refine go_i hH (run_S X hH (rest := []) (c_X7_isSort N S2 x2 h6) gm_X7_91 rfl hl.1 (rmL_ok (by decide) (by decide)) (Nat.le_of_ble_eq_true rfl) rfl dX7_macros_15) (fun H locs hH => ?_)
    clear h6
    refine lv_if_ne (tgt := 24) hx hb dX7_macros_18 (by decide) (fun c0 => ?_) (fun c0 => ?_)
    · replace hf := ite_f c0 hf
      refine lv_aload_n hx hb dX7_macros_24 rfl (lv_at hl 0 rfl) ?_
      refine lv_iload_n hx hb dX7_macros_25 rfl (lv_at hl 1 rfl) ?_
      refine lv_iload_n hx hb dX7_macros_26 rfl (lv_at hl 2 rfl) ?_
      refine lv_iload_n hx hb dX7_macros_27 rfl (lv_at hl 3 rfl) ?_
      refine lv_iload hx hb dX7_macros_28 (lv_at hl 4 rfl) ?_
      obtain ⟨r10, S8, h9, hf⟩ := cal_g hf
      refine go_i hH (run_V X hH (rest := []) (c_X7_against N S5 x1 x2 x3 x4 h9) gm_X7_94 (by decide) (e_32 E _) rfl rfl hl.1 (rmL_ok (by decide) (by decide)) (Nat.le_of_ble_eq_true rfl) rfl dX7_macros_30) (fun H locs hH => ?_)
      clear h9
      refine lv_istore (lv' := [(5, .int r10), (0, .ref (bb E 32)), (1, .int x1), (2, .int x2), (3, .int x3), (4, .int x4)]) hx hb dX7_macros_33 hl (by decide) rfl (fun ls hl => ?_)
      refine lv_iload hx hb dX7_macros_35 (lv_at hl 0 rfl) ?_
      refine lv_if_eq (tgt := 47) hx hb dX7_macros_37 (by decide) (fun c0 => ?_) (fun c0 => ?_)
      · replace hf := ite_t c0 hf
        refine lv_bipush (v := (nI 60)) hx hb dX7_macros_47 (by decide) ?_
        refine lv_iload_n hx hb dX7_macros_49 rfl (lv_at hl 2 rfl) ?_
        refine lv_imul hx hb dX7_macros_50 ?_
        refine lv_iload_n hx hb dX7_macros_51 rfl (lv_at hl 4 rfl) ?_
        refine lv_iadd hx hb dX7_macros_52 ?_
        refine lv_topi (fun y11 ex => ?_)
        replace hf := bnd_at ex hf
        clear ex
        refine lv_istore (lv' := [(6, .int y11), (5, .int r10), (0, .ref (bb E 32)), (1, .int x1), (2, .int x2), (3, .int x3), (4, .int x4)]) hx hb dX7_macros_53 hl (by decide) rfl (fun ls hl => ?_)
        refine lv_aload_n hx hb dX7_macros_55 rfl (lv_at hl 2 rfl) ?_
        refine lv_iload hx hb dX7_macros_56 (lv_at hl 0 rfl) ?_
        refine fp_X7_102 X hH dX7_macros_58 (fun H locs hH => ?_)
        obtain ⟨S12, ex, hf⟩ := bnd_go hf
        replace hH := HH_eq ex hH
        clear ex
        refine lv_aload_n hx hb dX7_macros_61 rfl (lv_at hl 2 rfl) ?_
        refine lv_iload hx hb dX7_macros_62 (lv_at hl 0 rfl) ?_
        refine lv_iload hx hb dX7_macros_64 (lv_at hl 6 rfl) ?_
        refine lv_iadd hx hb dX7_macros_66 ?_
        obtain ⟨r15, S13, h14, hf⟩ := cal_g hf
        refine go_i hH (run_V X hH (rest := []) (c_X7_readMacrosAll N S12 (y11 + x4) h14) gm_X7_105 (by decide) (e_32 E _) rfl rfl hl.1 (rmL_ok (by decide) (by decide)) (Nat.le_of_ble_eq_true rfl) rfl dX7_macros_67) (fun H locs hH => ?_)
        clear h14
        refine lv_if_ne (tgt := 84) hx hb dX7_macros_70 (by decide) (fun c0 => ?_) (fun c0 => ?_)
        · replace hf := ite_f c0 hf
          refine lv_aload_n hx hb dX7_macros_84 rfl (lv_at hl 2 rfl) ?_
          refine lv_aload_n hx hb dX7_macros_85 rfl (lv_at hl 2 rfl) ?_
          refine fg_X7_108 X hH dX7_macros_86 ?_
          refine fp_X7_84 X hH dX7_macros_89 (fun H locs hH => ?_)
          obtain ⟨S16, ex, hf⟩ := bnd_go hf
          replace hH := HH_eq ex hH
          clear ex
          refine lv_iconst (v := (nI 0)) hx hb dX7_macros_92 (by decide) ?_
          refine lv_topi (fun y17 ex => ?_)
          replace hf := bnd_at ex hf
          clear ex
          refine lv_istore (lv' := [(7, .int y17), (6, .int y11), (5, .int r10), (0, .ref (bb E 32)), (1, .int x1), (2, .int x2), (3, .int x3), (4, .int x4)]) hx hb dX7_macros_93 hl (by decide) rfl (fun ls hl => ?_)
          exact w_X7_macros_95 X N N S16 y17 hf _ _ hH _ (lv_sub hl [3, 0] rfl)
        · replace hf := ite_t c0 hf
          refine lv_bipush (v := (-100 : Int32)) hx hb dX7_macros_73 (by decide) ?_
          refine lv_aload_n hx hb dX7_macros_75 rfl (lv_at hl 2 rfl) ?_
          refine fg_X7_102 X hH dX7_macros_76 ?_
          refine lv_iload hx hb dX7_macros_79 (lv_at hl 0 rfl) ?_
          refine lv_isub hx hb dX7_macros_81 ?_
          refine lv_isub hx hb dX7_macros_82 ?_
          exact r_iret X hH hf dX7_macros_83
      · replace hf := ite_f c0 hf
        refine lv_aload_n hx hb dX7_macros_40 rfl (lv_at hl 1 rfl) ?_
        refine lv_iload hx hb dX7_macros_41 (lv_at hl 0 rfl) ?_
        obtain ⟨r20, S18, h19, hf⟩ := cal_g hf
        refine go_i hH (run_V X hH (rest := []) (c_X7_fails N S8 r10 h19) gm_X7_98 (by decide) (e_32 E _) rfl rfl hl.1 (rmL_ok (by decide) (by decide)) (Nat.le_of_ble_eq_true rfl) rfl dX7_macros_43) (fun H locs hH => ?_)
        clear h19
        exact r_iret X hH hf dX7_macros_46
    · replace hf := ite_t c0 hf
      refine lv_bipush (v := (-2 : Int32)) hx hb dX7_macros_21 (by decide) ?_
      exact r_iret X hH hf dX7_macros_23
  · replace hf := ite_t c0 hf
    refine lv_iconst (v := (-1 : Int32)) hx hb dX7_macros_12 (by decide) ?_
    exact r_iret X hH hf dX7_macros_13
theorem c_X7_macros {l : Launch} {E : Ev} (N : Nat) (S : St) (x1 : Int32) (x2 : Int32) (x3 : Int32) (x4 : Int32) {r : Int32} {S1 : St} (hf : f_X7_macros N S x1 x2 x3 x4 = some (r, S1)) : Ct l yX7_macros (.code yX7_macros cX7_macros 9 (some .int)) 5 E [.ref (bb E 32), .int x1, .int x2, .int x3, .int x4] S (QI E r S1) := by
  refine Ct.of (by decide) (Nat.le_of_ble_eq_true rfl) (fun p e s m below meth c ls X hH hl => ?_)
  exact w_X7_macros_0 X N S x1 x2 x3 x4 hf _ _ hH _ hl
set_option maxRecDepth 100000 in
set_option maxHeartbeats 4000000 in
theorem w_X7_many_0 {p : Program} {l : Launch} {e : Env} {s : State} {m : MethodId} {args : Array Value} {below : List Frame} {meth : Method} {c : Code} {E : Ev} {r : Int32} {S1 : St} (X : GX p s m meth c args cX7_many 2 (some .int) RX7 E) (N : Nat) : ∀ (S : St) (x1 : Int32), f_X7_many N S x1 = some (r, S1) → ∀ (H : Heap) (locs : List Loc), HH E S s H locs → ∀ ls : Array Slot, lv_has ls 2 [(0, .ref (bb E 32)), (1, .int x1)] → W p l e (rmL 3) s m args below meth c H locs 0 0 (MQ below (QI E r S1 s.heap.size) args s 0 0 (AA E s.heap.size)) (F0 m 0 ls []) := by
  have hx := X.1
  have hb := X.2.1
  intro S x1 hf H locs hH ls hl
  rw [f_X7_many] at hf
  refine lv_aload_n hx hb dX7_many_0 rfl (lv_at hl 0 rfl) ?_
  refine lv_aload_n hx hb dX7_many_1 rfl (lv_at hl 0 rfl) ?_
  refine fg_X7_111 X hH dX7_many_2 ?_
  obtain ⟨_, S1, h2, hf⟩ := cal_g hf
  refine go_v hH (run_V X hH (rest := []) (c_X7_workOn N S (S 32 7) h2) gm_X7_165 (by decide) (e_32 E _) rfl rfl hl.1 (rmL_ok (by decide) (by decide)) (Nat.le_of_ble_eq_true rfl) rfl dX7_many_5) (fun H locs hH => ?_)
  clear h2
  refine lv_iload_n hx hb dX7_many_8 rfl (lv_at hl 1 rfl) ?_
  refine lv_topi (fun y4 ex => ?_)
  replace hf := bnd_at ex hf
  clear ex
  by_cases c0 : y4 = (nI 0)
  · replace hf := ite_t c0 hf
    subst c0
    refine lv_tableIn (tgt := 44) hx hb dX7_many_9 (by decide) (by decide) rfl (by decide) ?_
    refine lv_aload_n hx hb dX7_many_44 rfl (lv_at hl 0 rfl) ?_
    refine fg_X7_84 X hH dX7_many_45 ?_
    exact r_iret X hH hf dX7_many_48
  · replace hf := ite_f c0 hf
    by_cases c1 : y4 = (nI 1)
    · replace hf := ite_t c1 hf
      subst c1
      refine lv_tableIn (tgt := 49) hx hb dX7_many_9 (by decide) (by decide) rfl (by decide) ?_
      refine lv_aload_n hx hb dX7_many_49 rfl (lv_at hl 0 rfl) ?_
      refine fg_X7_140 X hH dX7_many_50 ?_
      exact r_iret X hH hf dX7_many_53
    · replace hf := ite_f c1 hf
      by_cases c2 : y4 = (nI 2)
      · replace hf := ite_t c2 hf
        subst c2
        refine lv_tableIn (tgt := 54) hx hb dX7_many_9 (by decide) (by decide) rfl (by decide) ?_
        refine lv_aload_n hx hb dX7_many_54 rfl (lv_at hl 0 rfl) ?_
        refine fg_X7_146 X hH dX7_many_55 ?_
        exact r_iret X hH hf dX7_many_58
      · replace hf := ite_f c2 hf
        by_cases c3 : y4 = (nI 3)
        · replace hf := ite_t c3 hf
          subst c3
          refine lv_tableIn (tgt := 59) hx hb dX7_many_9 (by decide) (by decide) rfl (by decide) ?_
          refine lv_aload_n hx hb dX7_many_59 rfl (lv_at hl 0 rfl) ?_
          refine fg_X7_114 X hH dX7_many_60 ?_
          exact r_iret X hH hf dX7_many_63
        · replace hf := ite_f c3 hf
          by_cases c4 : y4 = (nI 4)
          · replace hf := ite_t c4 hf
            subst c4
            refine lv_tableIn (tgt := 64) hx hb dX7_many_9 (by decide) (by decide) rfl (by decide) ?_
            refine lv_aload_n hx hb dX7_many_64 rfl (lv_at hl 0 rfl) ?_
            refine fg_X7_117 X hH dX7_many_65 ?_
            exact r_iret X hH hf dX7_many_68
          · replace hf := ite_f c4 hf
            refine lv_tableOut (tgt := 69) hx hb dX7_many_9 (by have t0 : y4.toInt ≠ 0 := i32_ne c0; have t1 : y4.toInt ≠ 1 := i32_ne c1; have t2 : y4.toInt ≠ 2 := i32_ne c2; have t3 : y4.toInt ≠ 3 := i32_ne c3; have t4 : y4.toInt ≠ 4 := i32_ne c4; omega) (by decide) ?_
            refine lv_bipush (v := (-2 : Int32)) hx hb dX7_many_69 (by decide) ?_
            exact r_iret X hH hf dX7_many_71
theorem c_X7_many {l : Launch} {E : Ev} (N : Nat) (S : St) (x1 : Int32) {r : Int32} {S1 : St} (hf : f_X7_many N S x1 = some (r, S1)) : Ct l yX7_many (.code yX7_many cX7_many 2 (some .int)) 3 E [.ref (bb E 32), .int x1] S (QI E r S1) := by
  refine Ct.of (by decide) (Nat.le_of_ble_eq_true rfl) (fun p e s m below meth c ls X hH hl => ?_)
  exact w_X7_many_0 X N S x1 hf _ _ hH _ hl
set_option maxRecDepth 100000 in
set_option maxHeartbeats 4000000 in
theorem w_X7_odds_51 {p : Program} {l : Launch} {e : Env} {s : State} {m : MethodId} {args : Array Value} {below : List Frame} {meth : Method} {c : Code} {E : Ev} {r : Int64} {S1 : St} (X : GX p s m meth c args cX7_odds 7 (some .long) RX7 E) (N : Nat) (k34 : St → Int32 → Int32 → Int32 → Int32 → Int32 → Option (Int64 × St)) (hk34 : ∀ (S : St) (x1 : Int32) (x2 : Int32) (x3 : Int32) (x4 : Int32) (x5 : Int32), k34 S x1 x2 x3 x4 x5 = some (r, S1) → ∀ (H : Heap) (locs : List Loc), HH E S s H locs → ∀ ls : Array Slot, lv_has ls 7 [(0, .ref (bb E 32)), (1, .int x1), (2, .int x2), (3, .int x3), (4, .int x4), (5, .int x5)] → W p l e (rmL 4) s m args below meth c H locs 0 0 (MQ below (QL E r S1 s.heap.size) args s 0 0 (AA E s.heap.size)) (F0 m 34 ls [])) : ∀ (n : Nat) (S : St) (x1 : Int32) (x2 : Int32) (x3 : Int32) (x4 : Int32) (x5 : Int32) (x6 : Int32), f_X7_odds_51 N k34 n S x1 x2 x3 x4 x5 x6 = some (r, S1) → ∀ (H : Heap) (locs : List Loc), HH E S s H locs → ∀ ls : Array Slot, lv_has ls 7 [(0, .ref (bb E 32)), (1, .int x1), (2, .int x2), (3, .int x3), (4, .int x4), (5, .int x5), (6, .int x6)] → W p l e (rmL 4) s m args below meth c H locs 0 0 (MQ below (QL E r S1 s.heap.size) args s 0 0 (AA E s.heap.size)) (F0 m 51 ls []) := by
  have hx := X.1
  have hb := X.2.1
  intro n
  induction n with
  | zero =>
    intro S x1 x2 x3 x4 x5 x6 hf
    cases hf
  | succ n ih =>
    intro S x1 x2 x3 x4 x5 x6 hf H locs hH ls hl
    rw [f_X7_odds_51] at hf
    refine lv_iload hx hb dX7_odds_51 (lv_at hl 6 rfl) ?_
    refine lv_iload_n hx hb dX7_odds_53 rfl (lv_at hl 1 rfl) ?_
    refine lv_icmp_ge (tgt := 78) hx hb dX7_odds_54 (by decide) (fun c0 => ?_) (fun c0 => ?_)
    · replace hf := ite_t c0 hf
      refine lv_iload hx hb dX7_odds_78 (lv_at hl 4 rfl) ?_
      refine lv_aload_n hx hb dX7_odds_80 rfl (lv_at hl 0 rfl) ?_
      refine fg_X7_140 X hH dX7_odds_81 ?_
      refine lv_if_ne (tgt := 91) hx hb dX7_odds_84 (by decide) (fun c0 => ?_) (fun c0 => ?_)
      · replace hf := ite_f c0 hf
        refine lv_iconst (v := (nI 0)) hx hb dX7_odds_91 (by decide) ?_
        refine lv_iadd hx hb dX7_odds_92 ?_
        refine lv_topi (fun y1 ex => ?_)
        replace hf := bnd_at ex hf
        clear ex
        refine lv_istore (lv' := [(4, .int y1), (0, .ref (bb E 32)), (1, .int x1), (2, .int x2), (3, .int x3), (5, .int x5), (6, .int x6)]) hx hb dX7_odds_93 hl (by decide) rfl (fun ls hl => ?_)
        obtain ⟨y2, ex, hf⟩ := bnd_go hf
        refine lv_iinc (v := y2) (lv' := [(5, .int y2), (4, .int y1), (0, .ref (bb E 32)), (1, .int x1), (2, .int x2), (3, .int x3), (6, .int x6)]) hx hb dX7_odds_95 hl (k := 5) rfl (by rw [ex]; rfl) (by decide) rfl (fun ls hl => ?_)
        clear ex
        refine lv_goto (tgt := 34) hx hb dX7_odds_98 (by decide) ?_
        exact hk34 S x1 x2 x3 y1 y2 hf _ _ hH _ (lv_sub hl [2, 3, 4, 5, 1, 0] rfl)
      · replace hf := ite_t c0 hf
        refine lv_iconst (v := (nI 1)) hx hb dX7_odds_87 (by decide) ?_
        refine lv_goto (tgt := 92) hx hb dX7_odds_88 (by decide) ?_
        refine lv_iadd hx hb dX7_odds_92 ?_
        refine lv_topi (fun y3 ex => ?_)
        replace hf := bnd_at ex hf
        clear ex
        refine lv_istore (lv' := [(4, .int y3), (0, .ref (bb E 32)), (1, .int x1), (2, .int x2), (3, .int x3), (5, .int x5), (6, .int x6)]) hx hb dX7_odds_93 hl (by decide) rfl (fun ls hl => ?_)
        obtain ⟨y4, ex, hf⟩ := bnd_go hf
        refine lv_iinc (v := y4) (lv' := [(5, .int y4), (4, .int y3), (0, .ref (bb E 32)), (1, .int x1), (2, .int x2), (3, .int x3), (6, .int x6)]) hx hb dX7_odds_95 hl (k := 5) rfl (by rw [ex]; rfl) (by decide) rfl (fun ls hl => ?_)
        clear ex
        refine lv_goto (tgt := 34) hx hb dX7_odds_98 (by decide) ?_
        exact hk34 S x1 x2 x3 y3 y4 hf _ _ hH _ (lv_sub hl [2, 3, 4, 5, 1, 0] rfl)
    · replace hf := ite_f c0 hf
      refine lv_aload_n hx hb dX7_odds_57 rfl (lv_at hl 0 rfl) ?_
      refine lv_iload hx hb dX7_odds_58 (lv_at hl 5 rfl) ?_
      refine lv_iconst (v := (nI 3)) hx hb dX7_odds_60 (by decide) ?_
      refine lv_iload hx hb dX7_odds_61 (lv_at hl 6 rfl) ?_
      refine lv_imul hx hb dX7_odds_63 ?_
      refine lv_ishr hx hb dX7_odds_64 ?_
      refine lv_bipush (v := (nI 7)) hx hb dX7_odds_65 (by decide) ?_
      refine lv_iand hx hb dX7_odds_67 ?_
      obtain ⟨r7, S5, h6, hf⟩ := cal_g hf
      refine go_i hH (run_V X hH (rest := []) (c_X7_presses N S ((x5 >>> (((nI 3) * x6) &&& (31 : Int32))) &&& (nI 7)) h6) gm_X7_162 (by decide) (e_32 E _) rfl rfl hl.1 (rmL_ok (by decide) (by decide)) (Nat.le_of_ble_eq_true rfl) rfl dX7_odds_68) (fun H locs hH => ?_)
      clear h6
      refine lv_pop hx hb dX7_odds_71 rfl ?_
      obtain ⟨y8, ex, hf⟩ := bnd_go hf
      refine lv_iinc (v := y8) (lv' := [(6, .int y8), (0, .ref (bb E 32)), (1, .int x1), (2, .int x2), (3, .int x3), (4, .int x4), (5, .int x5)]) hx hb dX7_odds_72 hl (k := 6) rfl (by rw [ex]; rfl) (by decide) rfl (fun ls hl => ?_)
      clear ex
      refine lv_goto (tgt := 51) hx hb dX7_odds_75 (by decide) ?_
      exact ih S5 x1 x2 x3 x4 x5 y8 hf _ _ hH _ (lv_sub hl [1, 2, 3, 4, 5, 6, 0] rfl)
set_option maxRecDepth 100000 in
set_option maxHeartbeats 4000000 in
theorem w_X7_odds_34 {p : Program} {l : Launch} {e : Env} {s : State} {m : MethodId} {args : Array Value} {below : List Frame} {meth : Method} {c : Code} {E : Ev} {r : Int64} {S1 : St} (X : GX p s m meth c args cX7_odds 7 (some .long) RX7 E) (N : Nat) : ∀ (n : Nat) (S : St) (x1 : Int32) (x2 : Int32) (x3 : Int32) (x4 : Int32) (x5 : Int32), f_X7_odds_34 N n S x1 x2 x3 x4 x5 = some (r, S1) → ∀ (H : Heap) (locs : List Loc), HH E S s H locs → ∀ ls : Array Slot, lv_has ls 7 [(0, .ref (bb E 32)), (1, .int x1), (2, .int x2), (3, .int x3), (4, .int x4), (5, .int x5)] → W p l e (rmL 4) s m args below meth c H locs 0 0 (MQ below (QL E r S1 s.heap.size) args s 0 0 (AA E s.heap.size)) (F0 m 34 ls []) := by
  have hx := X.1
  have hb := X.2.1
  intro n
  induction n with
  | zero =>
    intro S x1 x2 x3 x4 x5 hf
    cases hf
  | succ n ih =>
    intro S x1 x2 x3 x4 x5 hf H locs hH ls hl
    rw [f_X7_odds_34] at hf
    refine lv_iload hx hb dX7_odds_34 (lv_at hl 5 rfl) ?_
    refine lv_iload_n hx hb dX7_odds_36 rfl (lv_at hl 3 rfl) ?_
    refine lv_icmp_ge (tgt := 101) hx hb dX7_odds_37 (by decide) (fun c0 => ?_) (fun c0 => ?_)
    · replace hf := ite_t c0 hf
      refine lv_iload hx hb dX7_odds_101 (lv_at hl 4 rfl) ?_
      refine lv_i2l hx hb dX7_odds_103 rfl ?_
      refine lv_iload_n hx hb dX7_odds_104 rfl (lv_at hl 3 rfl) ?_
      refine lv_i2l hx hb dX7_odds_105 rfl ?_
      refine lv_iload_n hx hb dX7_odds_106 rfl (lv_at hl 2 rfl) ?_
      obtain ⟨r3, S1, h2, hf⟩ := cal_g hf
      refine go_l hH (run_S X hH (rest := []) (c_X7_inLeastTerms N S x4.toInt64 x3.toInt64 x2 h2) gm_X7_210 rfl hl.1 (rmL_ok (by decide) (by decide)) (Nat.le_of_ble_eq_true rfl) rfl dX7_odds_107) (fun H locs hH => ?_)
      clear h2
      exact r_lret X hH hf dX7_odds_110
    · replace hf := ite_f c0 hf
      refine lv_aload_n hx hb dX7_odds_40 rfl (lv_at hl 0 rfl) ?_
      refine lv_aload_n hx hb dX7_odds_41 rfl (lv_at hl 0 rfl) ?_
      refine fg_X7_111 X hH dX7_odds_42 ?_
      obtain ⟨_, S4, h5, hf⟩ := cal_g hf
      refine go_v hH (run_V X hH (rest := []) (c_X7_workOn N S (S 32 7) h5) gm_X7_165 (by decide) (e_32 E _) rfl rfl hl.1 (rmL_ok (by decide) (by decide)) (Nat.le_of_ble_eq_true rfl) rfl dX7_odds_45) (fun H locs hH => ?_)
      clear h5
      refine lv_iconst (v := (nI 0)) hx hb dX7_odds_48 (by decide) ?_
      refine lv_topi (fun y7 ex => ?_)
      replace hf := bnd_at ex hf
      clear ex
      refine lv_istore (lv' := [(6, .int y7), (0, .ref (bb E 32)), (1, .int x1), (2, .int x2), (3, .int x3), (4, .int x4), (5, .int x5)]) hx hb dX7_odds_49 hl (by decide) rfl (fun ls hl => ?_)
      exact w_X7_odds_51 X N (f_X7_odds_34 N n) ih N S4 x1 x2 x3 x4 x5 y7 hf _ _ hH _ (lv_sub hl [1, 2, 3, 4, 5, 6, 0] rfl)
set_option maxRecDepth 100000 in
set_option maxHeartbeats 4000000 in
theorem w_X7_odds_0 {p : Program} {l : Launch} {e : Env} {s : State} {m : MethodId} {args : Array Value} {below : List Frame} {meth : Method} {c : Code} {E : Ev} {r : Int64} {S1 : St} (X : GX p s m meth c args cX7_odds 7 (some .long) RX7 E) (N : Nat) : ∀ (S : St) (x1 : Int32) (x2 : Int32), f_X7_odds N S x1 x2 = some (r, S1) → ∀ (H : Heap) (locs : List Loc), HH E S s H locs → ∀ ls : Array Slot, lv_has ls 7 [(0, .ref (bb E 32)), (1, .int x1), (2, .int x2)] → W p l e (rmL 4) s m args below meth c H locs 0 0 (MQ below (QL E r S1 s.heap.size) args s 0 0 (AA E s.heap.size)) (F0 m 0 ls []) := by
  have hx := X.1
  have hb := X.2.1
  intro S x1 x2 hf H locs hH ls hl
  rw [f_X7_odds] at hf
  refine lv_iload_n hx hb dX7_odds_0 rfl (lv_at hl 1 rfl) ?_
  refine lv_iconst (v := (nI 0)) hx hb dX7_odds_1 (by decide) ?_
  refine lv_iconst (v := (nI 4)) hx hb dX7_odds_2 (by decide) ?_
  obtain ⟨r3, S1, h2, hf⟩ := cal_g hf
  refine go_i hH (run_S X hH (rest := []) (c_X7_within N S x1 (nI 0) (nI 4) h2) gm_X7_80 rfl hl.1 (rmL_ok (by decide) (by decide)) (Nat.le_of_ble_eq_true rfl) rfl dX7_odds_3) (fun H locs hH => ?_)
  clear h2
  refine lv_if_eq (tgt := 18) hx hb dX7_odds_6 (by decide) (fun c0 => ?_) (fun c0 => ?_)
  · replace hf := ite_t c0 hf
    refine lv_ldc2 (v := (-9223372036854775808 : Int64)) hx hb X.2.2.2.1 (X.2.2.2.2.1 _ q_26_17) dX7_odds_18 ?_
    exact r_lret X hH hf dX7_odds_21
  · replace hf := ite_f c0 hf
    refine lv_iload_n hx hb dX7_odds_9 rfl (lv_at hl 2 rfl) ?_
    refine lv_iconst (v := (nI 0)) hx hb dX7_odds_10 (by decide) ?_
    refine lv_iconst (v := (nI 1)) hx hb dX7_odds_11 (by decide) ?_
    obtain ⟨r6, S4, h5, hf⟩ := cal_g hf
    refine go_i hH (run_S X hH (rest := []) (c_X7_within N S1 x2 (nI 0) (nI 1) h5) gm_X7_80 rfl hl.1 (rmL_ok (by decide) (by decide)) (Nat.le_of_ble_eq_true rfl) rfl dX7_odds_12) (fun H locs hH => ?_)
    clear h5
    refine lv_if_ne (tgt := 22) hx hb dX7_odds_15 (by decide) (fun c0 => ?_) (fun c0 => ?_)
    · replace hf := ite_f c0 hf
      refine lv_iconst (v := (nI 1)) hx hb dX7_odds_22 (by decide) ?_
      refine lv_iconst (v := (nI 3)) hx hb dX7_odds_23 (by decide) ?_
      refine lv_iload_n hx hb dX7_odds_24 rfl (lv_at hl 1 rfl) ?_
      refine lv_imul hx hb dX7_odds_25 ?_
      refine lv_ishl hx hb dX7_odds_26 ?_
      refine lv_topi (fun y7 ex => ?_)
      replace hf := bnd_at ex hf
      clear ex
      refine lv_istore_n (lv' := [(3, .int y7), (0, .ref (bb E 32)), (1, .int x1), (2, .int x2)]) hx hb dX7_odds_27 rfl hl (by decide) rfl (fun ls hl => ?_)
      refine lv_iconst (v := (nI 0)) hx hb dX7_odds_28 (by decide) ?_
      refine lv_topi (fun y8 ex => ?_)
      replace hf := bnd_at ex hf
      clear ex
      refine lv_istore (lv' := [(4, .int y8), (3, .int y7), (0, .ref (bb E 32)), (1, .int x1), (2, .int x2)]) hx hb dX7_odds_29 hl (by decide) rfl (fun ls hl => ?_)
      refine lv_iconst (v := (nI 0)) hx hb dX7_odds_31 (by decide) ?_
      refine lv_topi (fun y9 ex => ?_)
      replace hf := bnd_at ex hf
      clear ex
      refine lv_istore (lv' := [(5, .int y9), (4, .int y8), (3, .int y7), (0, .ref (bb E 32)), (1, .int x1), (2, .int x2)]) hx hb dX7_odds_32 hl (by decide) rfl (fun ls hl => ?_)
      exact w_X7_odds_34 X N N S4 x1 x2 y7 y8 y9 hf _ _ hH _ (lv_sub hl [3, 4, 5, 2, 1, 0] rfl)
    · replace hf := ite_t c0 hf
      refine lv_ldc2 (v := (-9223372036854775808 : Int64)) hx hb X.2.2.2.1 (X.2.2.2.2.1 _ q_26_17) dX7_odds_18 ?_
      exact r_lret X hH hf dX7_odds_21
theorem c_X7_odds {l : Launch} {E : Ev} (N : Nat) (S : St) (x1 : Int32) (x2 : Int32) {r : Int64} {S1 : St} (hf : f_X7_odds N S x1 x2 = some (r, S1)) : Ct l yX7_odds (.code yX7_odds cX7_odds 7 (some .long)) 4 E [.ref (bb E 32), .int x1, .int x2] S (QL E r S1) := by
  refine Ct.of (by decide) (Nat.le_of_ble_eq_true rfl) (fun p e s m below meth c ls X hH hl => ?_)
  exact w_X7_odds_0 X N S x1 x2 hf _ _ hH _ hl
set_option maxRecDepth 100000 in
set_option maxHeartbeats 4000000 in
theorem w_X7_ofMacro_0 {p : Program} {l : Launch} {e : Env} {s : State} {m : MethodId} {args : Array Value} {below : List Frame} {meth : Method} {c : Code} {E : Ev} {r : Int32} {S1 : St} (X : GX p s m meth c args cX7_ofMacro 3 (some .int) RX7 E) (N : Nat) : ∀ (S : St) (x1 : Int32) (x2 : Int32), f_X7_ofMacro N S x1 x2 = some (r, S1) → ∀ (H : Heap) (locs : List Loc), HH E S s H locs → ∀ ls : Array Slot, lv_has ls 3 [(0, .ref (bb E 32)), (1, .int x1), (2, .int x2)] → W p l e (rmL 3) s m args below meth c H locs 0 0 (MQ below (QI E r S1 s.heap.size) args s 0 0 (AA E s.heap.size)) (F0 m 0 ls []) := by
  have hx := X.1
  have hb := X.2.1
  intro S x1 x2 hf H locs hH ls hl
  rw [f_X7_ofMacro] at hf
  refine lv_aload_n hx hb dX7_ofMacro_0 rfl (lv_at hl 0 rfl) ?_
  refine lv_iload_n hx hb dX7_ofMacro_1 rfl (lv_at hl 1 rfl) ?_
  obtain ⟨r3, S1, h2, hf⟩ := cal_g hf
  refine go_i hH (run_V X hH (rest := []) (c_X7_isMacro N S x1 h2) gm_X7_134 (by decide) (e_32 E _) rfl rfl hl.1 (rmL_ok (by decide) (by decide)) (Nat.le_of_ble_eq_true rfl) rfl dX7_ofMacro_2) (fun H locs hH => ?_)
  clear h2
  refine lv_if_ne (tgt := 10) hx hb dX7_ofMacro_5 (by decide) (fun c0 => ?_) (fun c0 => ?_)
  · replace hf := ite_f c0 hf
    refine lv_iload_n hx hb dX7_ofMacro_10 rfl (lv_at hl 2 rfl) ?_
    refine lv_topi (fun y4 ex => ?_)
    replace hf := bnd_at ex hf
    clear ex
    by_cases c0 : y4 = (nI 0)
    · replace hf := ite_t c0 hf
      subst c0
      refine lv_tableIn (tgt := 44) hx hb dX7_ofMacro_11 (by decide) (by decide) rfl (by decide) ?_
      refine lv_aload_n hx hb dX7_ofMacro_44 rfl (lv_at hl 0 rfl) ?_
      refine fg_X7_19 X hH dX7_ofMacro_45 ?_
      refine lv_iload_n hx hb dX7_ofMacro_48 rfl (lv_at hl 1 rfl) ?_
      obtain ⟨g, hf⟩ := ite_g hf
      refine r_iald X hH (a_36 E) g dX7_ofMacro_49 ?_
      exact r_iret X hH hf dX7_ofMacro_50
    · replace hf := ite_f c0 hf
      by_cases c1 : y4 = (nI 1)
      · replace hf := ite_t c1 hf
        subst c1
        refine lv_tableIn (tgt := 51) hx hb dX7_ofMacro_11 (by decide) (by decide) rfl (by decide) ?_
        refine lv_aload_n hx hb dX7_ofMacro_51 rfl (lv_at hl 0 rfl) ?_
        refine fg_X7_22 X hH dX7_ofMacro_52 ?_
        refine lv_iload_n hx hb dX7_ofMacro_55 rfl (lv_at hl 1 rfl) ?_
        obtain ⟨g, hf⟩ := ite_g hf
        refine r_iald X hH (a_37 E) g dX7_ofMacro_56 ?_
        exact r_iret X hH hf dX7_ofMacro_57
      · replace hf := ite_f c1 hf
        by_cases c2 : y4 = (nI 2)
        · replace hf := ite_t c2 hf
          subst c2
          refine lv_tableIn (tgt := 58) hx hb dX7_ofMacro_11 (by decide) (by decide) rfl (by decide) ?_
          refine lv_aload_n hx hb dX7_ofMacro_58 rfl (lv_at hl 0 rfl) ?_
          refine lv_iload_n hx hb dX7_ofMacro_59 rfl (lv_at hl 1 rfl) ?_
          obtain ⟨r7, S5, h6, hf⟩ := cal_g hf
          refine go_i hH (run_V X hH (rest := []) (c_X7_oftenOf N S1 x1 h6) gm_X7_131 (by decide) (e_32 E _) rfl rfl hl.1 (rmL_ok (by decide) (by decide)) (Nat.le_of_ble_eq_true rfl) rfl dX7_ofMacro_60) (fun H locs hH => ?_)
          clear h6
          exact r_iret X hH hf dX7_ofMacro_63
        · replace hf := ite_f c2 hf
          by_cases c3 : y4 = (nI 3)
          · replace hf := ite_t c3 hf
            subst c3
            refine lv_tableIn (tgt := 64) hx hb dX7_ofMacro_11 (by decide) (by decide) rfl (by decide) ?_
            refine lv_aload_n hx hb dX7_ofMacro_64 rfl (lv_at hl 0 rfl) ?_
            refine fg_X7_25 X hH dX7_ofMacro_65 ?_
            refine lv_iload_n hx hb dX7_ofMacro_68 rfl (lv_at hl 1 rfl) ?_
            obtain ⟨g, hf⟩ := ite_g hf
            refine r_iald X hH (a_38 E) g dX7_ofMacro_69 ?_
            exact r_iret X hH hf dX7_ofMacro_70
          · replace hf := ite_f c3 hf
            by_cases c4 : y4 = (nI 4)
            · replace hf := ite_t c4 hf
              subst c4
              refine lv_tableIn (tgt := 71) hx hb dX7_ofMacro_11 (by decide) (by decide) rfl (by decide) ?_
              refine lv_aload_n hx hb dX7_ofMacro_71 rfl (lv_at hl 0 rfl) ?_
              obtain ⟨_, S8, h9, hf⟩ := cal_g hf
              refine go_v hH (run_V X hH (rest := []) (c_X7_findPresses N S1 h9) gm_X7_137 (by decide) (e_32 E _) rfl rfl hl.1 (rmL_ok (by decide) (by decide)) (Nat.le_of_ble_eq_true rfl) rfl dX7_ofMacro_72) (fun H locs hH => ?_)
              clear h9
              refine lv_aload_n hx hb dX7_ofMacro_75 rfl (lv_at hl 0 rfl) ?_
              refine fg_X7_43 X hH dX7_ofMacro_76 ?_
              refine lv_iload_n hx hb dX7_ofMacro_79 rfl (lv_at hl 1 rfl) ?_
              obtain ⟨g, hf⟩ := ite_g hf
              refine r_iald X hH (a_44 E) g dX7_ofMacro_80 ?_
              exact r_iret X hH hf dX7_ofMacro_81
            · replace hf := ite_f c4 hf
              refine lv_tableOut (tgt := 82) hx hb dX7_ofMacro_11 (by have t0 : y4.toInt ≠ 0 := i32_ne c0; have t1 : y4.toInt ≠ 1 := i32_ne c1; have t2 : y4.toInt ≠ 2 := i32_ne c2; have t3 : y4.toInt ≠ 3 := i32_ne c3; have t4 : y4.toInt ≠ 4 := i32_ne c4; omega) (by decide) ?_
              refine lv_bipush (v := (-2 : Int32)) hx hb dX7_ofMacro_82 (by decide) ?_
              exact r_iret X hH hf dX7_ofMacro_84
  · replace hf := ite_t c0 hf
    refine lv_iconst (v := (-1 : Int32)) hx hb dX7_ofMacro_8 (by decide) ?_
    exact r_iret X hH hf dX7_ofMacro_9
theorem c_X7_ofMacro {l : Launch} {E : Ev} (N : Nat) (S : St) (x1 : Int32) (x2 : Int32) {r : Int32} {S1 : St} (hf : f_X7_ofMacro N S x1 x2 = some (r, S1)) : Ct l yX7_ofMacro (.code yX7_ofMacro cX7_ofMacro 3 (some .int)) 3 E [.ref (bb E 32), .int x1, .int x2] S (QI E r S1) := by
  refine Ct.of (by decide) (Nat.le_of_ble_eq_true rfl) (fun p e s m below meth c ls X hH hl => ?_)
  exact w_X7_ofMacro_0 X N S x1 x2 hf _ _ hH _ hl
set_option maxRecDepth 100000 in
set_option maxHeartbeats 4000000 in
theorem w_X7_play_0 {p : Program} {l : Launch} {e : Env} {s : State} {m : MethodId} {args : Array Value} {below : List Frame} {meth : Method} {c : Code} {E : Ev} {r : Int32} {S1 : St} (X : GX p s m meth c args cX7_play 2 (some .int) RX7 E) (N : Nat) : ∀ (S : St) (x1 : Int32), f_X7_play N S x1 = some (r, S1) → ∀ (H : Heap) (locs : List Loc), HH E S s H locs → ∀ ls : Array Slot, lv_has ls 2 [(0, .ref (bb E 32)), (1, .int x1)] → W p l e (rmL 5) s m args below meth c H locs 0 0 (MQ below (QI E r S1 s.heap.size) args s 0 0 (AA E s.heap.size)) (F0 m 0 ls []) := by
  have hx := X.1
  have hb := X.2.1
  intro S x1 hf H locs hH ls hl
  rw [f_X7_play] at hf
  refine lv_aload_n hx hb dX7_play_0 rfl (lv_at hl 0 rfl) ?_
  refine lv_iload_n hx hb dX7_play_1 rfl (lv_at hl 1 rfl) ?_
  obtain ⟨r3, S1, h2, hf⟩ := cal_g hf
  refine go_i hH (run_V X hH (rest := []) (c_X7_isMacro N S x1 h2) gm_X7_134 (by decide) (e_32 E _) rfl rfl hl.1 (rmL_ok (by decide) (by decide)) (Nat.le_of_ble_eq_true rfl) rfl dX7_play_2) (fun H locs hH => ?_)
  clear h2
  refine lv_if_ne (tgt := 10) hx hb dX7_play_5 (by decide) (fun c0 => ?_) (fun c0 => ?_)
  · replace hf := ite_f c0 hf
    refine lv_aload_n hx hb dX7_play_10 rfl (lv_at hl 0 rfl) ?_
    refine lv_aload_n hx hb dX7_play_11 rfl (lv_at hl 0 rfl) ?_
    refine fg_X7_111 X hH dX7_play_12 ?_
    obtain ⟨_, S4, h5, hf⟩ := cal_g hf
    refine go_v hH (run_V X hH (rest := []) (c_X7_workOn N S1 (S1 32 7) h5) gm_X7_165 (by decide) (e_32 E _) rfl rfl hl.1 (rmL_ok (by decide) (by decide)) (Nat.le_of_ble_eq_true rfl) rfl dX7_play_15) (fun H locs hH => ?_)
    clear h5
    refine lv_aload_n hx hb dX7_play_18 rfl (lv_at hl 0 rfl) ?_
    refine lv_iconst (v := (nI 0)) hx hb dX7_play_19 (by decide) ?_
    refine fp_X7_159 X hH dX7_play_20 (fun H locs hH => ?_)
    obtain ⟨S7, ex, hf⟩ := bnd_go hf
    replace hH := HH_eq ex hH
    clear ex
    refine lv_aload_n hx hb dX7_play_23 rfl (lv_at hl 0 rfl) ?_
    refine lv_iload_n hx hb dX7_play_24 rfl (lv_at hl 1 rfl) ?_
    obtain ⟨_, S8, h9, hf⟩ := cal_g hf
    refine go_v hH (run_V X hH (rest := []) (c_X7_plays N S7 x1 h9) gm_X7_173 (by decide) (e_32 E _) rfl rfl hl.1 (rmL_ok (by decide) (by decide)) (Nat.le_of_ble_eq_true rfl) rfl dX7_play_25) (fun H locs hH => ?_)
    clear h9
    refine lv_aload_n hx hb dX7_play_28 rfl (lv_at hl 0 rfl) ?_
    refine lv_aload_n hx hb dX7_play_29 rfl (lv_at hl 0 rfl) ?_
    obtain ⟨r13, S11, h12, hf⟩ := cal_g hf
    refine go_i hH (run_V X hH (rest := [.ref (bb E 32)]) (c_X7_lineNumber N S8 h12) gm_X7_169 (by decide) (e_32 E _) rfl rfl hl.1 (rmL_ok (by decide) (by decide)) (Nat.le_of_ble_eq_true rfl) rfl dX7_play_30) (fun H locs hH => ?_)
    clear h12
    refine fp_X7_111 X hH dX7_play_33 (fun H locs hH => ?_)
    obtain ⟨S14, ex, hf⟩ := bnd_go hf
    replace hH := HH_eq ex hH
    clear ex
    refine lv_aload_n hx hb dX7_play_36 rfl (lv_at hl 0 rfl) ?_
    refine lv_dup hx hb dX7_play_37 rfl ?_
    refine fg_X7_114 X hH dX7_play_38 ?_
    refine lv_iconst (v := (nI 1)) hx hb dX7_play_41 (by decide) ?_
    refine lv_iadd hx hb dX7_play_42 ?_
    refine fp_X7_114 X hH dX7_play_43 (fun H locs hH => ?_)
    obtain ⟨S15, ex, hf⟩ := bnd_go hf
    replace hH := HH_eq ex hH
    clear ex
    refine lv_aload_n hx hb dX7_play_46 rfl (lv_at hl 0 rfl) ?_
    refine fg_X7_159 X hH dX7_play_47 ?_
    exact r_iret X hH hf dX7_play_50
  · replace hf := ite_t c0 hf
    refine lv_iconst (v := (-1 : Int32)) hx hb dX7_play_8 (by decide) ?_
    exact r_iret X hH hf dX7_play_9
theorem c_X7_play {l : Launch} {E : Ev} (N : Nat) (S : St) (x1 : Int32) {r : Int32} {S1 : St} (hf : f_X7_play N S x1 = some (r, S1)) : Ct l yX7_play (.code yX7_play cX7_play 2 (some .int)) 5 E [.ref (bb E 32), .int x1] S (QI E r S1) := by
  refine Ct.of (by decide) (Nat.le_of_ble_eq_true rfl) (fun p e s m below meth c ls X hH hl => ?_)
  exact w_X7_play_0 X N S x1 hf _ _ hH _ hl
set_option maxRecDepth 100000 in
set_option maxHeartbeats 4000000 in
theorem w_X7_press_0 {p : Program} {l : Launch} {e : Env} {s : State} {m : MethodId} {args : Array Value} {below : List Frame} {meth : Method} {c : Code} {E : Ev} {r : Int32} {S1 : St} (X : GX p s m meth c args cX7_press 3 (some .int) RX7 E) (N : Nat) : ∀ (S : St) (x1 : Int32), f_X7_press N S x1 = some (r, S1) → ∀ (H : Heap) (locs : List Loc), HH E S s H locs → ∀ ls : Array Slot, lv_has ls 3 [(0, .ref (bb E 32)), (1, .int x1)] → W p l e (rmL 4) s m args below meth c H locs 0 0 (MQ below (QI E r S1 s.heap.size) args s 0 0 (AA E s.heap.size)) (F0 m 0 ls []) := by
  have hx := X.1
  have hb := X.2.1
  intro S x1 hf H locs hH ls hl
  rw [f_X7_press] at hf
  refine lv_iload_n hx hb dX7_press_0 rfl (lv_at hl 1 rfl) ?_
  refine lv_iconst (v := (nI 0)) hx hb dX7_press_1 (by decide) ?_
  refine lv_bipush (v := (nI 7)) hx hb dX7_press_2 (by decide) ?_
  obtain ⟨r3, S1, h2, hf⟩ := cal_g hf
  refine go_i hH (run_S X hH (rest := []) (c_X7_within N S x1 (nI 0) (nI 7) h2) gm_X7_80 rfl hl.1 (rmL_ok (by decide) (by decide)) (Nat.le_of_ble_eq_true rfl) rfl dX7_press_4) (fun H locs hH => ?_)
  clear h2
  refine lv_if_ne (tgt := 13) hx hb dX7_press_7 (by decide) (fun c0 => ?_) (fun c0 => ?_)
  · replace hf := ite_f c0 hf
    refine lv_aload_n hx hb dX7_press_13 rfl (lv_at hl 0 rfl) ?_
    refine lv_aload_n hx hb dX7_press_14 rfl (lv_at hl 0 rfl) ?_
    refine fg_X7_111 X hH dX7_press_15 ?_
    obtain ⟨_, S4, h5, hf⟩ := cal_g hf
    refine go_v hH (run_V X hH (rest := []) (c_X7_workOn N S1 (S1 32 7) h5) gm_X7_165 (by decide) (e_32 E _) rfl rfl hl.1 (rmL_ok (by decide) (by decide)) (Nat.le_of_ble_eq_true rfl) rfl dX7_press_18) (fun H locs hH => ?_)
    clear h5
    refine lv_aload_n hx hb dX7_press_21 rfl (lv_at hl 0 rfl) ?_
    refine lv_iload_n hx hb dX7_press_22 rfl (lv_at hl 1 rfl) ?_
    obtain ⟨r9, S7, h8, hf⟩ := cal_g hf
    refine go_i hH (run_V X hH (rest := []) (c_X7_presses N S4 x1 h8) gm_X7_162 (by decide) (e_32 E _) rfl rfl hl.1 (rmL_ok (by decide) (by decide)) (Nat.le_of_ble_eq_true rfl) rfl dX7_press_23) (fun H locs hH => ?_)
    clear h8
    refine lv_istore_n (lv' := [(2, .int r9), (0, .ref (bb E 32)), (1, .int x1)]) hx hb dX7_press_26 rfl hl (by decide) rfl (fun ls hl => ?_)
    refine lv_aload_n hx hb dX7_press_27 rfl (lv_at hl 1 rfl) ?_
    refine lv_aload_n hx hb dX7_press_28 rfl (lv_at hl 1 rfl) ?_
    obtain ⟨r12, S10, h11, hf⟩ := cal_g hf
    refine go_i hH (run_V X hH (rest := [.ref (bb E 32)]) (c_X7_lineNumber N S7 h11) gm_X7_169 (by decide) (e_32 E _) rfl rfl hl.1 (rmL_ok (by decide) (by decide)) (Nat.le_of_ble_eq_true rfl) rfl dX7_press_29) (fun H locs hH => ?_)
    clear h11
    refine fp_X7_111 X hH dX7_press_32 (fun H locs hH => ?_)
    obtain ⟨S13, ex, hf⟩ := bnd_go hf
    replace hH := HH_eq ex hH
    clear ex
    refine lv_aload_n hx hb dX7_press_35 rfl (lv_at hl 1 rfl) ?_
    refine lv_dup hx hb dX7_press_36 rfl ?_
    refine fg_X7_114 X hH dX7_press_37 ?_
    refine lv_iconst (v := (nI 1)) hx hb dX7_press_40 (by decide) ?_
    refine lv_iadd hx hb dX7_press_41 ?_
    refine fp_X7_114 X hH dX7_press_42 (fun H locs hH => ?_)
    obtain ⟨S14, ex, hf⟩ := bnd_go hf
    replace hH := HH_eq ex hH
    clear ex
    refine lv_iload_n hx hb dX7_press_45 rfl (lv_at hl 0 rfl) ?_
    refine lv_if_eq (tgt := 53) hx hb dX7_press_46 (by decide) (fun c0 => ?_) (fun c0 => ?_)
    · replace hf := ite_t c0 hf
      refine lv_iconst (v := (nI 0)) hx hb dX7_press_53 (by decide) ?_
      exact r_iret X hH hf dX7_press_54
    · replace hf := ite_f c0 hf
      refine lv_iconst (v := (nI 1)) hx hb dX7_press_49 (by decide) ?_
      refine lv_goto (tgt := 54) hx hb dX7_press_50 (by decide) ?_
      exact r_iret X hH hf dX7_press_54
  · replace hf := ite_t c0 hf
    refine lv_bipush (v := (-2 : Int32)) hx hb dX7_press_10 (by decide) ?_
    exact r_iret X hH hf dX7_press_12
theorem c_X7_press {l : Launch} {E : Ev} (N : Nat) (S : St) (x1 : Int32) {r : Int32} {S1 : St} (hf : f_X7_press N S x1 = some (r, S1)) : Ct l yX7_press (.code yX7_press cX7_press 3 (some .int)) 4 E [.ref (bb E 32), .int x1] S (QI E r S1) := by
  refine Ct.of (by decide) (Nat.le_of_ble_eq_true rfl) (fun p e s m below meth c ls X hH hl => ?_)
  exact w_X7_press_0 X N S x1 hf _ _ hH _ hl
set_option maxRecDepth 100000 in
set_option maxHeartbeats 4000000 in
theorem w_X7_put_0 {p : Program} {l : Launch} {e : Env} {s : State} {m : MethodId} {args : Array Value} {below : List Frame} {meth : Method} {c : Code} {E : Ev} {r : Int32} {S1 : St} (X : GX p s m meth c args cX7_put 4 (some .int) RX7 E) (N : Nat) : ∀ (S : St) (x1 : Int32) (x2 : Int32) (x3 : Int32), f_X7_put N S x1 x2 x3 = some (r, S1) → ∀ (H : Heap) (locs : List Loc), HH E S s H locs → ∀ ls : Array Slot, lv_has ls 4 [(0, .ref (bb E 32)), (1, .int x1), (2, .int x2), (3, .int x3)] → W p l e (rmL 3) s m args below meth c H locs 0 0 (MQ below (QI E r S1 s.heap.size) args s 0 0 (AA E s.heap.size)) (F0 m 0 ls []) := by
  have hx := X.1
  have hb := X.2.1
  intro S x1 x2 x3 hf H locs hH ls hl
  rw [f_X7_put] at hf
  refine lv_aload_n hx hb dX7_put_0 rfl (lv_at hl 0 rfl) ?_
  refine lv_iconst (v := (nI 0)) hx hb dX7_put_1 (by decide) ?_
  refine fp_X7_74 X hH dX7_put_2 (fun H locs hH => ?_)
  obtain ⟨S1, ex, hf⟩ := bnd_go hf
  replace hH := HH_eq ex hH
  clear ex
  refine lv_iload_n hx hb dX7_put_5 rfl (lv_at hl 1 rfl) ?_
  obtain ⟨r4, S2, h3, hf⟩ := cal_g hf
  refine go_i hH (run_S X hH (rest := []) (c_X7_isSheet N S1 x1 h3) gm_X7_87 rfl hl.1 (rmL_ok (by decide) (by decide)) (Nat.le_of_ble_eq_true rfl) rfl dX7_put_6) (fun H locs hH => ?_)
  clear h3
  refine lv_if_ne (tgt := 14) hx hb dX7_put_9 (by decide) (fun c0 => ?_) (fun c0 => ?_)
  · replace hf := ite_f c0 hf
    refine lv_aload_n hx hb dX7_put_14 rfl (lv_at hl 0 rfl) ?_
    refine fg_X7_9 X hH dX7_put_15 ?_
    refine lv_iload_n hx hb dX7_put_18 rfl (lv_at hl 1 rfl) ?_
    obtain ⟨g, hf⟩ := ite_g hf
    refine r_iald X hH (a_33 E) g dX7_put_19 ?_
    refine lv_bipush (v := (-9 : Int32)) hx hb dX7_put_20 (by decide) ?_
    refine lv_icmp_ne (tgt := 31) hx hb dX7_put_22 (by decide) (fun c0 => ?_) (fun c0 => ?_)
    · replace hf := ite_f c0 hf
      refine lv_iload_n hx hb dX7_put_31 rfl (lv_at hl 2 rfl) ?_
      refine lv_iconst (v := (nI 0)) hx hb dX7_put_32 (by decide) ?_
      refine lv_aload_n hx hb dX7_put_33 rfl (lv_at hl 0 rfl) ?_
      refine fg_X7_13 X hH dX7_put_34 ?_
      refine lv_iload_n hx hb dX7_put_37 rfl (lv_at hl 1 rfl) ?_
      obtain ⟨g, hf⟩ := ite_g hf
      refine r_iald X hH (a_34 E) g dX7_put_38 ?_
      refine lv_iconst (v := (nI 1)) hx hb dX7_put_39 (by decide) ?_
      refine lv_isub hx hb dX7_put_40 ?_
      obtain ⟨r7, S5, h6, hf⟩ := cal_g hf
      refine go_i hH (run_S X hH (rest := []) (c_X7_within N S2 x2 (nI 0) ((S2 34 x1.toNatClampNeg) - (nI 1)) h6) gm_X7_80 rfl hl.1 (rmL_ok (by decide) (by decide)) (Nat.le_of_ble_eq_true rfl) rfl dX7_put_41) (fun H locs hH => ?_)
      clear h6
      refine lv_if_ne (tgt := 53) hx hb dX7_put_44 (by decide) (fun c0 => ?_) (fun c0 => ?_)
      · replace hf := ite_f c0 hf
        refine lv_aload_n hx hb dX7_put_53 rfl (lv_at hl 0 rfl) ?_
        refine fg_X7_16 X hH dX7_put_54 ?_
        refine lv_bipush (v := (nI 60)) hx hb dX7_put_57 (by decide) ?_
        refine lv_iload_n hx hb dX7_put_59 rfl (lv_at hl 1 rfl) ?_
        refine lv_imul hx hb dX7_put_60 ?_
        refine lv_iload_n hx hb dX7_put_61 rfl (lv_at hl 2 rfl) ?_
        refine lv_iadd hx hb dX7_put_62 ?_
        refine lv_aload_n hx hb dX7_put_63 rfl (lv_at hl 0 rfl) ?_
        refine fg_X7_9 X hH dX7_put_64 ?_
        refine lv_iload_n hx hb dX7_put_67 rfl (lv_at hl 1 rfl) ?_
        obtain ⟨g, hf⟩ := ite_g hf
        refine r_iald X hH (a_33 E) g dX7_put_68 ?_
        refine lv_if_ne (tgt := 77) hx hb dX7_put_69 (by decide) (fun c0 => ?_) (fun c0 => ?_)
        · replace hf := ite_f c0 hf
          refine lv_aload_n hx hb dX7_put_77 rfl (lv_at hl 0 rfl) ?_
          refine fg_X7_9 X hH dX7_put_78 ?_
          refine lv_iload_n hx hb dX7_put_81 rfl (lv_at hl 1 rfl) ?_
          obtain ⟨g, hf⟩ := ite_g hf
          refine r_iald X hH (a_33 E) g dX7_put_82 ?_
          refine lv_iconst (v := (nI 1)) hx hb dX7_put_83 (by decide) ?_
          refine lv_icmp_ne (tgt := 92) hx hb dX7_put_84 (by decide) (fun c0 => ?_) (fun c0 => ?_)
          · replace hf := ite_f c0 hf
            refine lv_iload_n hx hb dX7_put_92 rfl (lv_at hl 3 rfl) ?_
            obtain ⟨g, hf⟩ := ite_g hf
            refine r_iast X hH (a_35 E) g dX7_put_93 (fun H locs hH => ?_)
            obtain ⟨S8, ex, hf⟩ := bnd_go hf
            replace hH := HH_eq ex hH
            clear ex
            refine lv_iconst (v := (nI 1)) hx hb dX7_put_94 (by decide) ?_
            exact r_iret X hH hf dX7_put_95
          · replace hf := ite_t c0 hf
            refine lv_iload_n hx hb dX7_put_87 rfl (lv_at hl 3 rfl) ?_
            refine lv_i2s hx hb dX7_put_88 rfl ?_
            refine lv_goto (tgt := 93) hx hb dX7_put_89 (by decide) ?_
            obtain ⟨g, hf⟩ := ite_g hf
            refine r_iast X hH (a_35 E) g dX7_put_93 (fun H locs hH => ?_)
            obtain ⟨S9, ex, hf⟩ := bnd_go hf
            replace hH := HH_eq ex hH
            clear ex
            refine lv_iconst (v := (nI 1)) hx hb dX7_put_94 (by decide) ?_
            exact r_iret X hH hf dX7_put_95
        · replace hf := ite_t c0 hf
          refine lv_iload_n hx hb dX7_put_72 rfl (lv_at hl 3 rfl) ?_
          refine lv_i2b hx hb dX7_put_73 rfl ?_
          refine lv_goto (tgt := 93) hx hb dX7_put_74 (by decide) ?_
          obtain ⟨g, hf⟩ := ite_g hf
          refine r_iast X hH (a_35 E) g dX7_put_93 (fun H locs hH => ?_)
          obtain ⟨S10, ex, hf⟩ := bnd_go hf
          replace hH := HH_eq ex hH
          clear ex
          refine lv_iconst (v := (nI 1)) hx hb dX7_put_94 (by decide) ?_
          exact r_iret X hH hf dX7_put_95
      · replace hf := ite_t c0 hf
        refine lv_aload_n hx hb dX7_put_47 rfl (lv_at hl 0 rfl) ?_
        refine lv_iconst (v := (nI 3)) hx hb dX7_put_48 (by decide) ?_
        obtain ⟨r13, S11, h12, hf⟩ := cal_g hf
        refine go_i hH (run_V X hH (rest := []) (c_X7_fails N S5 (nI 3) h12) gm_X7_98 (by decide) (e_32 E _) rfl rfl hl.1 (rmL_ok (by decide) (by decide)) (Nat.le_of_ble_eq_true rfl) rfl dX7_put_49) (fun H locs hH => ?_)
        clear h12
        exact r_iret X hH hf dX7_put_52
    · replace hf := ite_t c0 hf
      refine lv_aload_n hx hb dX7_put_25 rfl (lv_at hl 0 rfl) ?_
      refine lv_iconst (v := (nI 1)) hx hb dX7_put_26 (by decide) ?_
      obtain ⟨r16, S14, h15, hf⟩ := cal_g hf
      refine go_i hH (run_V X hH (rest := []) (c_X7_fails N S2 (nI 1) h15) gm_X7_98 (by decide) (e_32 E _) rfl rfl hl.1 (rmL_ok (by decide) (by decide)) (Nat.le_of_ble_eq_true rfl) rfl dX7_put_27) (fun H locs hH => ?_)
      clear h15
      exact r_iret X hH hf dX7_put_30
  · replace hf := ite_t c0 hf
    refine lv_iconst (v := (-1 : Int32)) hx hb dX7_put_12 (by decide) ?_
    exact r_iret X hH hf dX7_put_13
theorem c_X7_put {l : Launch} {E : Ev} (N : Nat) (S : St) (x1 : Int32) (x2 : Int32) (x3 : Int32) {r : Int32} {S1 : St} (hf : f_X7_put N S x1 x2 x3 = some (r, S1)) : Ct l yX7_put (.code yX7_put cX7_put 4 (some .int)) 3 E [.ref (bb E 32), .int x1, .int x2, .int x3] S (QI E r S1) := by
  refine Ct.of (by decide) (Nat.le_of_ble_eq_true rfl) (fun p e s m below meth c ls X hH hl => ?_)
  exact w_X7_put_0 X N S x1 x2 x3 hf _ _ hH _ hl
set_option maxRecDepth 100000 in
set_option maxHeartbeats 4000000 in
theorem w_X7_reading_0 {p : Program} {l : Launch} {e : Env} {s : State} {m : MethodId} {args : Array Value} {below : List Frame} {meth : Method} {c : Code} {E : Ev} {r : Int32} {S1 : St} (X : GX p s m meth c args cX7_reading 3 (some .int) RX7 E) (N : Nat) : ∀ (S : St) (x1 : Int32) (x2 : Int32), f_X7_reading N S x1 x2 = some (r, S1) → ∀ (H : Heap) (locs : List Loc), HH E S s H locs → ∀ ls : Array Slot, lv_has ls 3 [(0, .ref (bb E 32)), (1, .int x1), (2, .int x2)] → W p l e (rmL 2) s m args below meth c H locs 0 0 (MQ below (QI E r S1 s.heap.size) args s 0 0 (AA E s.heap.size)) (F0 m 0 ls []) := by
  have hx := X.1
  have hb := X.2.1
  intro S x1 x2 hf H locs hH ls hl
  rw [f_X7_reading] at hf
  refine lv_aload_n hx hb dX7_reading_0 rfl (lv_at hl 0 rfl) ?_
  refine lv_iload_n hx hb dX7_reading_1 rfl (lv_at hl 1 rfl) ?_
  obtain ⟨r3, S1, h2, hf⟩ := cal_g hf
  refine go_i hH (run_V X hH (rest := []) (c_X7_isMacro N S x1 h2) gm_X7_134 (by decide) (e_32 E _) rfl rfl hl.1 (rmL_ok (by decide) (by decide)) (Nat.le_of_ble_eq_true rfl) rfl dX7_reading_2) (fun H locs hH => ?_)
  clear h2
  refine lv_if_ne (tgt := 10) hx hb dX7_reading_5 (by decide) (fun c0 => ?_) (fun c0 => ?_)
  · replace hf := ite_f c0 hf
    refine lv_iload_n hx hb dX7_reading_10 rfl (lv_at hl 2 rfl) ?_
    refine lv_iconst (v := (nI 0)) hx hb dX7_reading_11 (by decide) ?_
    refine lv_iconst (v := (nI 5)) hx hb dX7_reading_12 (by decide) ?_
    obtain ⟨r6, S4, h5, hf⟩ := cal_g hf
    refine go_i hH (run_S X hH (rest := []) (c_X7_within N S1 x2 (nI 0) (nI 5) h5) gm_X7_80 rfl hl.1 (rmL_ok (by decide) (by decide)) (Nat.le_of_ble_eq_true rfl) rfl dX7_reading_13) (fun H locs hH => ?_)
    clear h5
    refine lv_if_ne (tgt := 22) hx hb dX7_reading_16 (by decide) (fun c0 => ?_) (fun c0 => ?_)
    · replace hf := ite_f c0 hf
      refine lv_aload_n hx hb dX7_reading_22 rfl (lv_at hl 0 rfl) ?_
      refine fg_X7_117 X hH dX7_reading_23 ?_
      refine lv_bipush (v := (nI 8)) hx hb dX7_reading_26 (by decide) ?_
      refine lv_icmp_ne (tgt := 34) hx hb dX7_reading_28 (by decide) (fun c0 => ?_) (fun c0 => ?_)
      · replace hf := ite_f c0 hf
        refine lv_aload_n hx hb dX7_reading_34 rfl (lv_at hl 0 rfl) ?_
        refine fg_X7_68 X hH dX7_reading_35 ?_
        refine lv_aload_n hx hb dX7_reading_38 rfl (lv_at hl 0 rfl) ?_
        refine fg_X7_117 X hH dX7_reading_39 ?_
        refine lv_iload_n hx hb dX7_reading_42 rfl (lv_at hl 1 rfl) ?_
        obtain ⟨g, hf⟩ := ite_g hf
        refine r_iast X hH (a_52 E) g dX7_reading_43 (fun H locs hH => ?_)
        obtain ⟨S7, ex, hf⟩ := bnd_go hf
        replace hH := HH_eq ex hH
        clear ex
        refine lv_aload_n hx hb dX7_reading_44 rfl (lv_at hl 0 rfl) ?_
        refine fg_X7_71 X hH dX7_reading_45 ?_
        refine lv_aload_n hx hb dX7_reading_48 rfl (lv_at hl 0 rfl) ?_
        refine fg_X7_117 X hH dX7_reading_49 ?_
        refine lv_iload_n hx hb dX7_reading_52 rfl (lv_at hl 2 rfl) ?_
        obtain ⟨g, hf⟩ := ite_g hf
        refine r_iast X hH (a_53 E) g dX7_reading_53 (fun H locs hH => ?_)
        obtain ⟨S8, ex, hf⟩ := bnd_go hf
        replace hH := HH_eq ex hH
        clear ex
        refine lv_aload_n hx hb dX7_reading_54 rfl (lv_at hl 0 rfl) ?_
        refine lv_dup hx hb dX7_reading_55 rfl ?_
        refine fg_X7_117 X hH dX7_reading_56 ?_
        refine lv_iconst (v := (nI 1)) hx hb dX7_reading_59 (by decide) ?_
        refine lv_iadd hx hb dX7_reading_60 ?_
        refine fp_X7_117 X hH dX7_reading_61 (fun H locs hH => ?_)
        obtain ⟨S9, ex, hf⟩ := bnd_go hf
        replace hH := HH_eq ex hH
        clear ex
        refine lv_aload_n hx hb dX7_reading_64 rfl (lv_at hl 0 rfl) ?_
        refine fg_X7_117 X hH dX7_reading_65 ?_
        refine lv_iconst (v := (nI 1)) hx hb dX7_reading_68 (by decide) ?_
        refine lv_isub hx hb dX7_reading_69 ?_
        exact r_iret X hH hf dX7_reading_70
      · replace hf := ite_t c0 hf
        refine lv_bipush (v := (-4 : Int32)) hx hb dX7_reading_31 (by decide) ?_
        exact r_iret X hH hf dX7_reading_33
    · replace hf := ite_t c0 hf
      refine lv_bipush (v := (-2 : Int32)) hx hb dX7_reading_19 (by decide) ?_
      exact r_iret X hH hf dX7_reading_21
  · replace hf := ite_t c0 hf
    refine lv_iconst (v := (-1 : Int32)) hx hb dX7_reading_8 (by decide) ?_
    exact r_iret X hH hf dX7_reading_9
theorem c_X7_reading {l : Launch} {E : Ev} (N : Nat) (S : St) (x1 : Int32) (x2 : Int32) {r : Int32} {S1 : St} (hf : f_X7_reading N S x1 x2 = some (r, S1)) : Ct l yX7_reading (.code yX7_reading cX7_reading 3 (some .int)) 2 E [.ref (bb E 32), .int x1, .int x2] S (QI E r S1) := by
  refine Ct.of (by decide) (Nat.le_of_ble_eq_true rfl) (fun p e s m below meth c ls X hH hl => ?_)
  exact w_X7_reading_0 X N S x1 x2 hf _ _ hH _ hl
set_option maxRecDepth 100000 in
set_option maxHeartbeats 4000000 in
theorem w_X7_tellRow_88 {p : Program} {l : Launch} {e : Env} {s : State} {m : MethodId} {args : Array Value} {below : List Frame} {meth : Method} {c : Code} {E : Ev} {r : Int32} {S1 : St} (X : GX p s m meth c args cX7_tellRow 4 (some .int) RX7 E) (N : Nat) : ∀ (n : Nat) (S : St) (x2 : Int32) (x3 : Int32), f_X7_tellRow_88 N n S x2 x3 = some (r, S1) → ∀ (H : Heap) (locs : List Loc), HH E S s H locs → ∀ ls : Array Slot, lv_has ls 4 [(0, .ref (bb E 32)), (2, .int x2), (3, .int x3)] → W p l e (rmL 1) s m args below meth c H locs 0 0 (MQ below (QI E r S1 s.heap.size) args s 0 0 (AA E s.heap.size)) (F0 m 88 ls []) := by
  have hx := X.1
  have hb := X.2.1
  intro n
  induction n with
  | zero =>
    intro S x2 x3 hf
    cases hf
  | succ n ih =>
    intro S x2 x3 hf H locs hH ls hl
    rw [f_X7_tellRow_88] at hf
    refine lv_iload_n hx hb dX7_tellRow_88 rfl (lv_at hl 2 rfl) ?_
    refine lv_aload_n hx hb dX7_tellRow_89 rfl (lv_at hl 0 rfl) ?_
    refine fg_X7_140 X hH dX7_tellRow_90 ?_
    refine lv_icmp_ge (tgt := 116) hx hb dX7_tellRow_93 (by decide) (fun c0 => ?_) (fun c0 => ?_)
    · replace hf := ite_t c0 hf
      refine lv_iload_n hx hb dX7_tellRow_116 rfl (lv_at hl 1 rfl) ?_
      exact r_iret X hH hf dX7_tellRow_117
    · replace hf := ite_f c0 hf
      refine lv_bipush (v := (nI 10)) hx hb dX7_tellRow_96 (by decide) ?_
      refine lv_iload_n hx hb dX7_tellRow_98 rfl (lv_at hl 1 rfl) ?_
      refine lv_imul hx hb dX7_tellRow_99 ?_
      refine lv_aload_n hx hb dX7_tellRow_100 rfl (lv_at hl 0 rfl) ?_
      refine fg_X7_46 X hH dX7_tellRow_101 ?_
      refine lv_iload_n hx hb dX7_tellRow_104 rfl (lv_at hl 2 rfl) ?_
      obtain ⟨g, hf⟩ := ite_g hf
      refine r_iald X hH (a_45 E) g dX7_tellRow_105 ?_
      refine lv_iadd hx hb dX7_tellRow_106 ?_
      refine lv_iconst (v := (nI 1)) hx hb dX7_tellRow_107 (by decide) ?_
      refine lv_iadd hx hb dX7_tellRow_108 ?_
      refine lv_topi (fun y1 ex => ?_)
      replace hf := bnd_at ex hf
      clear ex
      refine lv_istore_n (lv' := [(2, .int y1), (0, .ref (bb E 32)), (3, .int x3)]) hx hb dX7_tellRow_109 rfl hl (by decide) rfl (fun ls hl => ?_)
      obtain ⟨y2, ex, hf⟩ := bnd_go hf
      refine lv_iinc (v := y2) (lv' := [(3, .int y2), (2, .int y1), (0, .ref (bb E 32))]) hx hb dX7_tellRow_110 hl (k := 2) rfl (by rw [ex]; rfl) (by decide) rfl (fun ls hl => ?_)
      clear ex
      refine lv_goto (tgt := 88) hx hb dX7_tellRow_113 (by decide) ?_
      exact ih S y1 y2 hf _ _ hH _ (lv_sub hl [2, 1, 0] rfl)
set_option maxRecDepth 100000 in
set_option maxHeartbeats 4000000 in
theorem w_X7_tellRow_0 {p : Program} {l : Launch} {e : Env} {s : State} {m : MethodId} {args : Array Value} {below : List Frame} {meth : Method} {c : Code} {E : Ev} {r : Int32} {S1 : St} (X : GX p s m meth c args cX7_tellRow 4 (some .int) RX7 E) (N : Nat) : ∀ (S : St) (x1 : Int32), f_X7_tellRow N S x1 = some (r, S1) → ∀ (H : Heap) (locs : List Loc), HH E S s H locs → ∀ ls : Array Slot, lv_has ls 4 [(0, .ref (bb E 32)), (1, .int x1)] → W p l e (rmL 1) s m args below meth c H locs 0 0 (MQ below (QI E r S1 s.heap.size) args s 0 0 (AA E s.heap.size)) (F0 m 0 ls []) := by
  have hx := X.1
  have hb := X.2.1
  intro S x1 hf H locs hH ls hl
  rw [f_X7_tellRow] at hf
  refine lv_iload_n hx hb dX7_tellRow_0 rfl (lv_at hl 1 rfl) ?_
  refine lv_bipush (v := (nI 10)) hx hb dX7_tellRow_1 (by decide) ?_
  refine lv_icmp_lt (tgt := 32) hx hb dX7_tellRow_3 (by decide) (fun c0 => ?_) (fun c0 => ?_)
  · replace hf := ite_t c0 hf
    refine lv_iload_n hx hb dX7_tellRow_32 rfl (lv_at hl 1 rfl) ?_
    refine lv_topi (fun y1 ex => ?_)
    replace hf := bnd_at ex hf
    clear ex
    by_cases c0 : y1 = (nI 0)
    · replace hf := ite_t c0 hf
      subst c0
      refine lv_tableIn (tgt := 64) hx hb dX7_tellRow_33 (by decide) (by decide) rfl (by decide) ?_
      refine lv_aload_n hx hb dX7_tellRow_64 rfl (lv_at hl 0 rfl) ?_
      refine fg_X7_140 X hH dX7_tellRow_65 ?_
      exact r_iret X hH hf dX7_tellRow_68
    · replace hf := ite_f c0 hf
      by_cases c1 : y1 = (nI 1)
      · replace hf := ite_t c1 hf
        subst c1
        refine lv_tableIn (tgt := 69) hx hb dX7_tellRow_33 (by decide) (by decide) rfl (by decide) ?_
        refine lv_aload_n hx hb dX7_tellRow_69 rfl (lv_at hl 0 rfl) ?_
        refine fg_X7_146 X hH dX7_tellRow_70 ?_
        exact r_iret X hH hf dX7_tellRow_73
      · replace hf := ite_f c1 hf
        by_cases c2 : y1 = (nI 2)
        · replace hf := ite_t c2 hf
          subst c2
          refine lv_tableIn (tgt := 74) hx hb dX7_tellRow_33 (by decide) (by decide) rfl (by decide) ?_
          refine lv_aload_n hx hb dX7_tellRow_74 rfl (lv_at hl 0 rfl) ?_
          refine fg_X7_176 X hH dX7_tellRow_75 ?_
          exact r_iret X hH hf dX7_tellRow_78
        · replace hf := ite_f c2 hf
          by_cases c3 : y1 = (nI 3)
          · replace hf := ite_t c3 hf
            subst c3
            refine lv_tableIn (tgt := 79) hx hb dX7_tellRow_33 (by decide) (by decide) rfl (by decide) ?_
            refine lv_aload_n hx hb dX7_tellRow_79 rfl (lv_at hl 0 rfl) ?_
            refine fg_X7_159 X hH dX7_tellRow_80 ?_
            exact r_iret X hH hf dX7_tellRow_83
          · replace hf := ite_f c3 hf
            refine lv_tableOut (tgt := 84) hx hb dX7_tellRow_33 (by have t0 : y1.toInt ≠ 0 := i32_ne c0; have t1 : y1.toInt ≠ 1 := i32_ne c1; have t2 : y1.toInt ≠ 2 := i32_ne c2; have t3 : y1.toInt ≠ 3 := i32_ne c3; omega) (by decide) ?_
            refine lv_iconst (v := (nI 0)) hx hb dX7_tellRow_84 (by decide) ?_
            refine lv_topi (fun y2 ex => ?_)
            replace hf := bnd_at ex hf
            clear ex
            refine lv_istore_n (lv' := [(2, .int y2), (0, .ref (bb E 32)), (1, .int x1)]) hx hb dX7_tellRow_85 rfl hl (by decide) rfl (fun ls hl => ?_)
            refine lv_iconst (v := (nI 0)) hx hb dX7_tellRow_86 (by decide) ?_
            refine lv_topi (fun y3 ex => ?_)
            replace hf := bnd_at ex hf
            clear ex
            refine lv_istore_n (lv' := [(3, .int y3), (2, .int y2), (0, .ref (bb E 32)), (1, .int x1)]) hx hb dX7_tellRow_87 rfl hl (by decide) rfl (fun ls hl => ?_)
            exact w_X7_tellRow_88 X N N S y2 y3 hf _ _ hH _ (lv_sub hl [2, 1, 0] rfl)
  · replace hf := ite_f c0 hf
    refine lv_iload_n hx hb dX7_tellRow_6 rfl (lv_at hl 1 rfl) ?_
    refine lv_bipush (v := (nI 10)) hx hb dX7_tellRow_7 (by decide) ?_
    refine lv_isub hx hb dX7_tellRow_9 ?_
    refine lv_aload_n hx hb dX7_tellRow_10 rfl (lv_at hl 0 rfl) ?_
    refine fg_X7_140 X hH dX7_tellRow_11 ?_
    refine lv_icmp_ge (tgt := 29) hx hb dX7_tellRow_14 (by decide) (fun c0 => ?_) (fun c0 => ?_)
    · replace hf := ite_t c0 hf
      refine lv_bipush (v := (-9 : Int32)) hx hb dX7_tellRow_29 (by decide) ?_
      exact r_iret X hH hf dX7_tellRow_31
    · replace hf := ite_f c0 hf
      refine lv_aload_n hx hb dX7_tellRow_17 rfl (lv_at hl 0 rfl) ?_
      refine fg_X7_46 X hH dX7_tellRow_18 ?_
      refine lv_iload_n hx hb dX7_tellRow_21 rfl (lv_at hl 1 rfl) ?_
      refine lv_bipush (v := (nI 10)) hx hb dX7_tellRow_22 (by decide) ?_
      refine lv_isub hx hb dX7_tellRow_24 ?_
      obtain ⟨g, hf⟩ := ite_g hf
      refine r_iald X hH (a_45 E) g dX7_tellRow_25 ?_
      refine lv_goto (tgt := 31) hx hb dX7_tellRow_26 (by decide) ?_
      exact r_iret X hH hf dX7_tellRow_31
theorem c_X7_tellRow {l : Launch} {E : Ev} (N : Nat) (S : St) (x1 : Int32) {r : Int32} {S1 : St} (hf : f_X7_tellRow N S x1 = some (r, S1)) : Ct l yX7_tellRow (.code yX7_tellRow cX7_tellRow 4 (some .int)) 1 E [.ref (bb E 32), .int x1] S (QI E r S1) := by
  refine Ct.of (by decide) (Nat.le_of_ble_eq_true rfl) (fun p e s m below meth c ls X hH hl => ?_)
  exact w_X7_tellRow_0 X N S x1 hf _ _ hH _ hl
set_option maxRecDepth 100000 in
set_option maxHeartbeats 4000000 in
theorem w_X7_row_94 {p : Program} {l : Launch} {e : Env} {s : State} {m : MethodId} {args : Array Value} {below : List Frame} {meth : Method} {c : Code} {E : Ev} {r : Int32} {S1 : St} (X : GX p s m meth c args cX7_row 10 (some .int) RX7 E) (N : Nat) : ∀ (n : Nat) (S : St) (x4 : Int32) (x5 : Int32) (x7 : Int32) (x8 : Int32) (x9 : Int32), f_X7_row_94 N n S x4 x5 x7 x8 x9 = some (r, S1) → ∀ (H : Heap) (locs : List Loc), HH E S s H locs → ∀ ls : Array Slot, lv_has ls 10 [(0, .ref (bb E 32)), (4, .int x4), (5, .int x5), (7, .int x7), (8, .int x8), (9, .int x9)] → W p l e (rmL 6) s m args below meth c H locs 0 0 (MQ below (QI E r S1 s.heap.size) args s 0 0 (AA E s.heap.size)) (F0 m 94 ls []) := by
  have hx := X.1
  have hb := X.2.1
  intro n
  induction n with
  | zero =>
    intro S x4 x5 x7 x8 x9 hf
    cases hf
  | succ n ih =>
    intro S x4 x5 x7 x8 x9 hf H locs hH ls hl
    rw [f_X7_row_94] at hf
    refine lv_iload hx hb dX7_row_94 (lv_at hl 5 rfl) ?_
    refine lv_iload hx hb dX7_row_96 (lv_at hl 1 rfl) ?_
    refine lv_icmp_ge (tgt := 176) hx hb dX7_row_98 (by decide) (fun c0 => ?_) (fun c0 => ?_)
    · replace hf := ite_t c0 hf
      refine lv_iload hx hb dX7_row_176 (lv_at hl 4 rfl) ?_
      refine lv_if_ne (tgt := 183) hx hb dX7_row_178 (by decide) (fun c0 => ?_) (fun c0 => ?_)
      · replace hf := ite_f c0 hf
        refine lv_aload_n hx hb dX7_row_183 rfl (lv_at hl 0 rfl) ?_
        refine lv_iload hx hb dX7_row_184 (lv_at hl 3 rfl) ?_
        refine lv_iload hx hb dX7_row_186 (lv_at hl 1 rfl) ?_
        obtain ⟨_, S1, h2, hf⟩ := cal_g hf
        refine go_v hH (run_V X hH (rest := []) (c_X7_goRow N S x7 x4 h2) gm_X7_179 (by decide) (e_32 E _) rfl rfl hl.1 (rmL_ok (by decide) (by decide)) (Nat.le_of_ble_eq_true rfl) rfl dX7_row_188) (fun H locs hH => ?_)
        clear h2
        refine lv_aload_n hx hb dX7_row_191 rfl (lv_at hl 0 rfl) ?_
        refine lv_iload hx hb dX7_row_192 (lv_at hl 2 rfl) ?_
        obtain ⟨r6, S4, h5, hf⟩ := cal_g hf
        refine go_i hH (run_V X hH (rest := []) (c_X7_tellRow N S1 x5 h5) gm_X7_183 (by decide) (e_32 E _) rfl rfl hl.1 (rmL_ok (by decide) (by decide)) (Nat.le_of_ble_eq_true rfl) rfl dX7_row_194) (fun H locs hH => ?_)
        clear h5
        exact r_iret X hH hf dX7_row_197
      · replace hf := ite_t c0 hf
        refine lv_iconst (v := (-1 : Int32)) hx hb dX7_row_181 (by decide) ?_
        exact r_iret X hH hf dX7_row_182
    · replace hf := ite_f c0 hf
      refine lv_aload_n hx hb dX7_row_101 rfl (lv_at hl 0 rfl) ?_
      refine fg_X7_16 X hH dX7_row_102 ?_
      refine lv_iload hx hb dX7_row_105 (lv_at hl 3 rfl) ?_
      refine lv_iload hx hb dX7_row_107 (lv_at hl 5 rfl) ?_
      refine lv_iadd hx hb dX7_row_109 ?_
      obtain ⟨g, hf⟩ := ite_g hf
      refine r_iald X hH (a_35 E) g dX7_row_110 ?_
      refine lv_iconst (v := (nI 0)) hx hb dX7_row_111 (by decide) ?_
      refine lv_bipush (v := (nI 10)) hx hb dX7_row_112 (by decide) ?_
      obtain ⟨r9, S7, h8, hf⟩ := cal_g hf
      refine go_i hH (run_S X hH (rest := []) (c_X7_within N S (S 35 (x7 + x9).toNatClampNeg) (nI 0) (nI 10) h8) gm_X7_80 rfl hl.1 (rmL_ok (by decide) (by decide)) (Nat.le_of_ble_eq_true rfl) rfl dX7_row_114) (fun H locs hH => ?_)
      clear h8
      refine lv_if_ne (tgt := 123) hx hb dX7_row_117 (by decide) (fun c0 => ?_) (fun c0 => ?_)
      · replace hf := ite_f c0 hf
        refine lv_iload hx hb dX7_row_123 (lv_at hl 4 rfl) ?_
        refine lv_if_eq (tgt := 167) hx hb dX7_row_125 (by decide) (fun c0 => ?_) (fun c0 => ?_)
        · replace hf := ite_t c0 hf
          refine lv_iconst (v := (nI 0)) hx hb dX7_row_167 (by decide) ?_
          refine lv_topi (fun y10 ex => ?_)
          replace hf := bnd_at ex hf
          clear ex
          refine lv_istore (lv' := [(8, .int y10), (0, .ref (bb E 32)), (4, .int x4), (5, .int x5), (7, .int x7), (9, .int x9)]) hx hb dX7_row_168 hl (by decide) rfl (fun ls hl => ?_)
          obtain ⟨y11, ex, hf⟩ := bnd_go hf
          refine lv_iinc (v := y11) (lv' := [(9, .int y11), (8, .int y10), (0, .ref (bb E 32)), (4, .int x4), (5, .int x5), (7, .int x7)]) hx hb dX7_row_170 hl (k := 5) rfl (by rw [ex]; rfl) (by decide) rfl (fun ls hl => ?_)
          clear ex
          refine lv_goto (tgt := 94) hx hb dX7_row_173 (by decide) ?_
          exact ih S7 x4 x5 x7 y10 y11 hf _ _ hH _ (lv_sub hl [2, 3, 4, 5, 1, 0] rfl)
        · replace hf := ite_f c0 hf
          refine lv_aload_n hx hb dX7_row_128 rfl (lv_at hl 0 rfl) ?_
          refine fg_X7_16 X hH dX7_row_129 ?_
          refine lv_iload hx hb dX7_row_132 (lv_at hl 3 rfl) ?_
          refine lv_iload hx hb dX7_row_134 (lv_at hl 5 rfl) ?_
          refine lv_iadd hx hb dX7_row_136 ?_
          obtain ⟨g, hf⟩ := ite_g hf
          refine r_iald X hH (a_35 E) g dX7_row_137 ?_
          refine lv_bipush (v := (nI 8)) hx hb dX7_row_138 (by decide) ?_
          refine lv_icmp_lt (tgt := 163) hx hb dX7_row_140 (by decide) (fun c0 => ?_) (fun c0 => ?_)
          · replace hf := ite_t c0 hf
            refine lv_iconst (v := (nI 1)) hx hb dX7_row_163 (by decide) ?_
            refine lv_goto (tgt := 168) hx hb dX7_row_164 (by decide) ?_
            refine lv_topi (fun y12 ex => ?_)
            replace hf := bnd_at ex hf
            clear ex
            refine lv_istore (lv' := [(8, .int y12), (0, .ref (bb E 32)), (4, .int x4), (5, .int x5), (7, .int x7), (9, .int x9)]) hx hb dX7_row_168 hl (by decide) rfl (fun ls hl => ?_)
            obtain ⟨y13, ex, hf⟩ := bnd_go hf
            refine lv_iinc (v := y13) (lv' := [(9, .int y13), (8, .int y12), (0, .ref (bb E 32)), (4, .int x4), (5, .int x5), (7, .int x7)]) hx hb dX7_row_170 hl (k := 5) rfl (by rw [ex]; rfl) (by decide) rfl (fun ls hl => ?_)
            clear ex
            refine lv_goto (tgt := 94) hx hb dX7_row_173 (by decide) ?_
            exact ih S7 x4 x5 x7 y12 y13 hf _ _ hH _ (lv_sub hl [2, 3, 4, 5, 1, 0] rfl)
          · replace hf := ite_f c0 hf
            refine lv_aload_n hx hb dX7_row_143 rfl (lv_at hl 0 rfl) ?_
            refine lv_aload_n hx hb dX7_row_144 rfl (lv_at hl 0 rfl) ?_
            refine fg_X7_16 X hH dX7_row_145 ?_
            refine lv_iload hx hb dX7_row_148 (lv_at hl 3 rfl) ?_
            refine lv_iload hx hb dX7_row_150 (lv_at hl 5 rfl) ?_
            refine lv_iadd hx hb dX7_row_152 ?_
            obtain ⟨g, hf⟩ := ite_g hf
            refine r_iald X hH (a_35 E) g dX7_row_153 ?_
            refine lv_bipush (v := (nI 8)) hx hb dX7_row_154 (by decide) ?_
            refine lv_isub hx hb dX7_row_156 ?_
            obtain ⟨r16, S14, h15, hf⟩ := cal_g hf
            refine go_i hH (run_V X hH (rest := []) (c_X7_isMacro N S7 ((S7 35 (x7 + x9).toNatClampNeg) - (nI 8)) h15) gm_X7_134 (by decide) (e_32 E _) rfl rfl hl.1 (rmL_ok (by decide) (by decide)) (Nat.le_of_ble_eq_true rfl) rfl dX7_row_157) (fun H locs hH => ?_)
            clear h15
            refine lv_if_eq (tgt := 167) hx hb dX7_row_160 (by decide) (fun c0 => ?_) (fun c0 => ?_)
            · replace hf := ite_t c0 hf
              refine lv_iconst (v := (nI 0)) hx hb dX7_row_167 (by decide) ?_
              refine lv_topi (fun y17 ex => ?_)
              replace hf := bnd_at ex hf
              clear ex
              refine lv_istore (lv' := [(8, .int y17), (0, .ref (bb E 32)), (4, .int x4), (5, .int x5), (7, .int x7), (9, .int x9)]) hx hb dX7_row_168 hl (by decide) rfl (fun ls hl => ?_)
              obtain ⟨y18, ex, hf⟩ := bnd_go hf
              refine lv_iinc (v := y18) (lv' := [(9, .int y18), (8, .int y17), (0, .ref (bb E 32)), (4, .int x4), (5, .int x5), (7, .int x7)]) hx hb dX7_row_170 hl (k := 5) rfl (by rw [ex]; rfl) (by decide) rfl (fun ls hl => ?_)
              clear ex
              refine lv_goto (tgt := 94) hx hb dX7_row_173 (by decide) ?_
              exact ih S14 x4 x5 x7 y17 y18 hf _ _ hH _ (lv_sub hl [2, 3, 4, 5, 1, 0] rfl)
            · replace hf := ite_f c0 hf
              refine lv_iconst (v := (nI 1)) hx hb dX7_row_163 (by decide) ?_
              refine lv_goto (tgt := 168) hx hb dX7_row_164 (by decide) ?_
              refine lv_topi (fun y19 ex => ?_)
              replace hf := bnd_at ex hf
              clear ex
              refine lv_istore (lv' := [(8, .int y19), (0, .ref (bb E 32)), (4, .int x4), (5, .int x5), (7, .int x7), (9, .int x9)]) hx hb dX7_row_168 hl (by decide) rfl (fun ls hl => ?_)
              obtain ⟨y20, ex, hf⟩ := bnd_go hf
              refine lv_iinc (v := y20) (lv' := [(9, .int y20), (8, .int y19), (0, .ref (bb E 32)), (4, .int x4), (5, .int x5), (7, .int x7)]) hx hb dX7_row_170 hl (k := 5) rfl (by rw [ex]; rfl) (by decide) rfl (fun ls hl => ?_)
              clear ex
              refine lv_goto (tgt := 94) hx hb dX7_row_173 (by decide) ?_
              exact ih S14 x4 x5 x7 y19 y20 hf _ _ hH _ (lv_sub hl [2, 3, 4, 5, 1, 0] rfl)
      · replace hf := ite_t c0 hf
        refine lv_bipush (v := (-2 : Int32)) hx hb dX7_row_120 (by decide) ?_
        exact r_iret X hH hf dX7_row_122
set_option maxRecDepth 100000 in
set_option maxHeartbeats 4000000 in
theorem w_X7_row_57 {p : Program} {l : Launch} {e : Env} {s : State} {m : MethodId} {args : Array Value} {below : List Frame} {meth : Method} {c : Code} {E : Ev} {r : Int32} {S1 : St} (X : GX p s m meth c args cX7_row 10 (some .int) RX7 E) (N : Nat) : ∀ (S : St) (x1 : Int32) (x2 : Int32) (x3 : Int32) (x4 : Int32) (x5 : Int32), f_X7_row_57 N S x1 x2 x3 x4 x5 = some (r, S1) → ∀ (H : Heap) (locs : List Loc), HH E S s H locs → ∀ ls : Array Slot, lv_has ls 10 [(0, .ref (bb E 32)), (1, .int x1), (2, .int x2), (3, .int x3), (4, .int x4), (5, .int x5)] → W p l e (rmL 6) s m args below meth c H locs 0 0 (MQ below (QI E r S1 s.heap.size) args s 0 0 (AA E s.heap.size)) (F0 m 57 ls []) := by
  have hx := X.1
  have hb := X.2.1
  intro S x1 x2 x3 x4 x5 hf H locs hH ls hl
  rw [f_X7_row_57] at hf
  refine lv_aload_n hx hb dX7_row_57 rfl (lv_at hl 0 rfl) ?_
  refine lv_iload_n hx hb dX7_row_58 rfl (lv_at hl 1 rfl) ?_
  refine lv_iload_n hx hb dX7_row_59 rfl (lv_at hl 2 rfl) ?_
  refine lv_iload_n hx hb dX7_row_60 rfl (lv_at hl 3 rfl) ?_
  refine lv_iload hx hb dX7_row_61 (lv_at hl 4 rfl) ?_
  obtain ⟨r3, S1, h2, hf⟩ := cal_g hf
  refine go_i hH (run_V X hH (rest := []) (c_X7_against N S x1 x2 x3 x4 h2) gm_X7_94 (by decide) (e_32 E _) rfl rfl hl.1 (rmL_ok (by decide) (by decide)) (Nat.le_of_ble_eq_true rfl) rfl dX7_row_63) (fun H locs hH => ?_)
  clear h2
  refine lv_istore (lv' := [(6, .int r3), (0, .ref (bb E 32)), (1, .int x1), (2, .int x2), (3, .int x3), (4, .int x4), (5, .int x5)]) hx hb dX7_row_66 hl (by decide) rfl (fun ls hl => ?_)
  refine lv_iload hx hb dX7_row_68 (lv_at hl 0 rfl) ?_
  refine lv_if_eq (tgt := 80) hx hb dX7_row_70 (by decide) (fun c0 => ?_) (fun c0 => ?_)
  · replace hf := ite_t c0 hf
    refine lv_bipush (v := (nI 60)) hx hb dX7_row_80 (by decide) ?_
    refine lv_iload_n hx hb dX7_row_82 rfl (lv_at hl 2 rfl) ?_
    refine lv_imul hx hb dX7_row_83 ?_
    refine lv_iload_n hx hb dX7_row_84 rfl (lv_at hl 4 rfl) ?_
    refine lv_iadd hx hb dX7_row_85 ?_
    refine lv_topi (fun y4 ex => ?_)
    replace hf := bnd_at ex hf
    clear ex
    refine lv_istore (lv' := [(7, .int y4), (6, .int r3), (0, .ref (bb E 32)), (1, .int x1), (2, .int x2), (3, .int x3), (4, .int x4), (5, .int x5)]) hx hb dX7_row_86 hl (by decide) rfl (fun ls hl => ?_)
    refine lv_iconst (v := (nI 1)) hx hb dX7_row_88 (by decide) ?_
    refine lv_topi (fun y5 ex => ?_)
    replace hf := bnd_at ex hf
    clear ex
    refine lv_istore (lv' := [(8, .int y5), (7, .int y4), (6, .int r3), (0, .ref (bb E 32)), (1, .int x1), (2, .int x2), (3, .int x3), (4, .int x4), (5, .int x5)]) hx hb dX7_row_89 hl (by decide) rfl (fun ls hl => ?_)
    refine lv_iconst (v := (nI 0)) hx hb dX7_row_91 (by decide) ?_
    refine lv_topi (fun y6 ex => ?_)
    replace hf := bnd_at ex hf
    clear ex
    refine lv_istore (lv' := [(9, .int y6), (8, .int y5), (7, .int y4), (6, .int r3), (0, .ref (bb E 32)), (1, .int x1), (2, .int x2), (3, .int x3), (4, .int x4), (5, .int x5)]) hx hb dX7_row_92 hl (by decide) rfl (fun ls hl => ?_)
    exact w_X7_row_94 X N N S1 x4 x5 y4 y5 y6 hf _ _ hH _ (lv_sub hl [4, 8, 9, 2, 1, 0] rfl)
  · replace hf := ite_f c0 hf
    refine lv_aload_n hx hb dX7_row_73 rfl (lv_at hl 1 rfl) ?_
    refine lv_iload hx hb dX7_row_74 (lv_at hl 0 rfl) ?_
    obtain ⟨r9, S7, h8, hf⟩ := cal_g hf
    refine go_i hH (run_V X hH (rest := []) (c_X7_fails N S1 r3 h8) gm_X7_98 (by decide) (e_32 E _) rfl rfl hl.1 (rmL_ok (by decide) (by decide)) (Nat.le_of_ble_eq_true rfl) rfl dX7_row_76) (fun H locs hH => ?_)
    clear h8
    exact r_iret X hH hf dX7_row_79
set_option maxRecDepth 100000 in
set_option maxHeartbeats 4000000 in
theorem w_X7_row_0 {p : Program} {l : Launch} {e : Env} {s : State} {m : MethodId} {args : Array Value} {below : List Frame} {meth : Method} {c : Code} {E : Ev} {r : Int32} {S1 : St} (X : GX p s m meth c args cX7_row 10 (some .int) RX7 E) (N : Nat) : ∀ (S : St) (x1 : Int32) (x2 : Int32) (x3 : Int32) (x4 : Int32) (x5 : Int32), f_X7_row N S x1 x2 x3 x4 x5 = some (r, S1) → ∀ (H : Heap) (locs : List Loc), HH E S s H locs → ∀ ls : Array Slot, lv_has ls 10 [(0, .ref (bb E 32)), (1, .int x1), (2, .int x2), (3, .int x3), (4, .int x4), (5, .int x5)] → W p l e (rmL 6) s m args below meth c H locs 0 0 (MQ below (QI E r S1 s.heap.size) args s 0 0 (AA E s.heap.size)) (F0 m 0 ls []) := by
  have hx := X.1
  have hb := X.2.1
  intro S x1 x2 x3 x4 x5 hf H locs hH ls hl
  rw [f_X7_row] at hf
  refine lv_aload_n hx hb dX7_row_0 rfl (lv_at hl 0 rfl) ?_
  refine lv_iconst (v := (nI 0)) hx hb dX7_row_1 (by decide) ?_
  refine fp_X7_74 X hH dX7_row_2 (fun H locs hH => ?_)
  obtain ⟨S1, ex, hf⟩ := bnd_go hf
  replace hH := HH_eq ex hH
  clear ex
  refine lv_iload_n hx hb dX7_row_5 rfl (lv_at hl 1 rfl) ?_
  obtain ⟨r4, S2, h3, hf⟩ := cal_g hf
  refine go_i hH (run_S X hH (rest := []) (c_X7_isSheet N S1 x1 h3) gm_X7_87 rfl hl.1 (rmL_ok (by decide) (by decide)) (Nat.le_of_ble_eq_true rfl) rfl dX7_row_6) (fun H locs hH => ?_)
  clear h3
  refine lv_if_ne (tgt := 14) hx hb dX7_row_9 (by decide) (fun c0 => ?_) (fun c0 => ?_)
  · replace hf := ite_f c0 hf
    refine lv_iload_n hx hb dX7_row_14 rfl (lv_at hl 2 rfl) ?_
    obtain ⟨r7, S5, h6, hf⟩ := cal_g hf
    refine go_i hH (run_S X hH (rest := []) (c_X7_isSort N S2 x2 h6) gm_X7_91 rfl hl.1 (rmL_ok (by decide) (by decide)) (Nat.le_of_ble_eq_true rfl) rfl dX7_row_15) (fun H locs hH => ?_)
    clear h6
    refine lv_if_eq (tgt := 54) hx hb dX7_row_18 (by decide) (fun c0 => ?_) (fun c0 => ?_)
    · replace hf := ite_t c0 hf
      refine lv_bipush (v := (-2 : Int32)) hx hb dX7_row_54 (by decide) ?_
      exact r_iret X hH hf dX7_row_56
    · replace hf := ite_f c0 hf
      refine lv_iload hx hb dX7_row_21 (lv_at hl 4 rfl) ?_
      refine lv_iconst (v := (nI 0)) hx hb dX7_row_23 (by decide) ?_
      refine lv_bipush (v := (nI 20)) hx hb dX7_row_24 (by decide) ?_
      obtain ⟨r10, S8, h9, hf⟩ := cal_g hf
      refine go_i hH (run_S X hH (rest := []) (c_X7_within N S5 x4 (nI 0) (nI 20) h9) gm_X7_80 rfl hl.1 (rmL_ok (by decide) (by decide)) (Nat.le_of_ble_eq_true rfl) rfl dX7_row_26) (fun H locs hH => ?_)
      clear h9
      refine lv_if_eq (tgt := 54) hx hb dX7_row_29 (by decide) (fun c0 => ?_) (fun c0 => ?_)
      · replace hf := ite_t c0 hf
        refine lv_bipush (v := (-2 : Int32)) hx hb dX7_row_54 (by decide) ?_
        exact r_iret X hH hf dX7_row_56
      · replace hf := ite_f c0 hf
        refine lv_iload hx hb dX7_row_32 (lv_at hl 5 rfl) ?_
        refine lv_iconst (v := (nI 0)) hx hb dX7_row_34 (by decide) ?_
        refine lv_iconst (v := (nI 4)) hx hb dX7_row_35 (by decide) ?_
        obtain ⟨r13, S11, h12, hf⟩ := cal_g hf
        refine go_i hH (run_S X hH (rest := []) (c_X7_within N S8 x5 (nI 0) (nI 4) h12) gm_X7_80 rfl hl.1 (rmL_ok (by decide) (by decide)) (Nat.le_of_ble_eq_true rfl) rfl dX7_row_36) (fun H locs hH => ?_)
        clear h12
        refine lv_if_ne (tgt := 57) hx hb dX7_row_39 (by decide) (fun c0 => ?_) (fun c0 => ?_)
        · replace hf := ite_f c0 hf
          exact w_X7_row_57 X N S11 x1 x2 x3 x4 x5 hf _ _ hH _ (lv_sub hl [0, 1, 2, 3, 4, 5] rfl)
        · replace hf := ite_t c0 hf
          refine lv_iload hx hb dX7_row_42 (lv_at hl 5 rfl) ?_
          refine lv_bipush (v := (nI 10)) hx hb dX7_row_44 (by decide) ?_
          refine lv_bipush (v := (nI 14)) hx hb dX7_row_46 (by decide) ?_
          obtain ⟨r16, S14, h15, hf⟩ := cal_g hf
          refine go_i hH (run_S X hH (rest := []) (c_X7_within N S11 x5 (nI 10) (nI 14) h15) gm_X7_80 rfl hl.1 (rmL_ok (by decide) (by decide)) (Nat.le_of_ble_eq_true rfl) rfl dX7_row_48) (fun H locs hH => ?_)
          clear h15
          refine lv_if_ne (tgt := 57) hx hb dX7_row_51 (by decide) (fun c0 => ?_) (fun c0 => ?_)
          · replace hf := ite_f c0 hf
            exact w_X7_row_57 X N S14 x1 x2 x3 x4 x5 hf _ _ hH _ (lv_sub hl [0, 1, 2, 3, 4, 5] rfl)
          · replace hf := ite_t c0 hf
            refine lv_bipush (v := (-2 : Int32)) hx hb dX7_row_54 (by decide) ?_
            exact r_iret X hH hf dX7_row_56
  · replace hf := ite_t c0 hf
    refine lv_iconst (v := (-1 : Int32)) hx hb dX7_row_12 (by decide) ?_
    exact r_iret X hH hf dX7_row_13
theorem c_X7_row {l : Launch} {E : Ev} (N : Nat) (S : St) (x1 : Int32) (x2 : Int32) (x3 : Int32) (x4 : Int32) (x5 : Int32) {r : Int32} {S1 : St} (hf : f_X7_row N S x1 x2 x3 x4 x5 = some (r, S1)) : Ct l yX7_row (.code yX7_row cX7_row 10 (some .int)) 6 E [.ref (bb E 32), .int x1, .int x2, .int x3, .int x4, .int x5] S (QI E r S1) := by
  refine Ct.of (by decide) (Nat.le_of_ble_eq_true rfl) (fun p e s m below meth c ls X hH hl => ?_)
  exact w_X7_row_0 X N S x1 x2 x3 x4 x5 hf _ _ hH _ hl
set_option maxRecDepth 100000 in
set_option maxHeartbeats 4000000 in
theorem w_X7_sheet_57 {p : Program} {l : Launch} {e : Env} {s : State} {m : MethodId} {args : Array Value} {below : List Frame} {meth : Method} {c : Code} {E : Ev} {r : Int32} {S1 : St} (X : GX p s m meth c args cX7_sheet 5 (some .int) RX7 E) (N : Nat) : ∀ (n : Nat) (S : St) (x1 : Int32) (x4 : Int32), f_X7_sheet_57 N n S x1 x4 = some (r, S1) → ∀ (H : Heap) (locs : List Loc), HH E S s H locs → ∀ ls : Array Slot, lv_has ls 5 [(0, .ref (bb E 32)), (1, .int x1), (4, .int x4)] → W p l e (rmL 3) s m args below meth c H locs 0 0 (MQ below (QI E r S1 s.heap.size) args s 0 0 (AA E s.heap.size)) (F0 m 57 ls []) := by
  have hx := X.1
  have hb := X.2.1
  intro n
  induction n with
  | zero =>
    intro S x1 x4 hf
    cases hf
  | succ n ih =>
    intro S x1 x4 hf H locs hH ls hl
    rw [f_X7_sheet_57] at hf
    refine lv_iload hx hb dX7_sheet_57 (lv_at hl 2 rfl) ?_
    refine lv_bipush (v := (nI 60)) hx hb dX7_sheet_59 (by decide) ?_
    refine lv_icmp_ge (tgt := 83) hx hb dX7_sheet_61 (by decide) (fun c0 => ?_) (fun c0 => ?_)
    · replace hf := ite_t c0 hf
      refine lv_iconst (v := (nI 1)) hx hb dX7_sheet_83 (by decide) ?_
      exact r_iret X hH hf dX7_sheet_84
    · replace hf := ite_f c0 hf
      refine lv_aload_n hx hb dX7_sheet_64 rfl (lv_at hl 0 rfl) ?_
      refine fg_X7_16 X hH dX7_sheet_65 ?_
      refine lv_bipush (v := (nI 60)) hx hb dX7_sheet_68 (by decide) ?_
      refine lv_iload_n hx hb dX7_sheet_70 rfl (lv_at hl 1 rfl) ?_
      refine lv_imul hx hb dX7_sheet_71 ?_
      refine lv_iload hx hb dX7_sheet_72 (lv_at hl 2 rfl) ?_
      refine lv_iadd hx hb dX7_sheet_74 ?_
      refine lv_iconst (v := (nI 0)) hx hb dX7_sheet_75 (by decide) ?_
      obtain ⟨g, hf⟩ := ite_g hf
      refine r_iast X hH (a_35 E) g dX7_sheet_76 (fun H locs hH => ?_)
      obtain ⟨S1, ex, hf⟩ := bnd_go hf
      replace hH := HH_eq ex hH
      clear ex
      obtain ⟨y2, ex, hf⟩ := bnd_go hf
      refine lv_iinc (v := y2) (lv' := [(4, .int y2), (0, .ref (bb E 32)), (1, .int x1)]) hx hb dX7_sheet_77 hl (k := 2) rfl (by rw [ex]; rfl) (by decide) rfl (fun ls hl => ?_)
      clear ex
      refine lv_goto (tgt := 57) hx hb dX7_sheet_80 (by decide) ?_
      exact ih S1 x1 y2 hf _ _ hH _ (lv_sub hl [1, 2, 0] rfl)
set_option maxRecDepth 100000 in
set_option maxHeartbeats 4000000 in
theorem w_X7_sheet_0 {p : Program} {l : Launch} {e : Env} {s : State} {m : MethodId} {args : Array Value} {below : List Frame} {meth : Method} {c : Code} {E : Ev} {r : Int32} {S1 : St} (X : GX p s m meth c args cX7_sheet 5 (some .int) RX7 E) (N : Nat) : ∀ (S : St) (x1 : Int32) (x2 : Int32) (x3 : Int32), f_X7_sheet N S x1 x2 x3 = some (r, S1) → ∀ (H : Heap) (locs : List Loc), HH E S s H locs → ∀ ls : Array Slot, lv_has ls 5 [(0, .ref (bb E 32)), (1, .int x1), (2, .int x2), (3, .int x3)] → W p l e (rmL 3) s m args below meth c H locs 0 0 (MQ below (QI E r S1 s.heap.size) args s 0 0 (AA E s.heap.size)) (F0 m 0 ls []) := by
  have hx := X.1
  have hb := X.2.1
  intro S x1 x2 x3 hf H locs hH ls hl
  rw [f_X7_sheet] at hf
  refine lv_aload_n hx hb dX7_sheet_0 rfl (lv_at hl 0 rfl) ?_
  refine lv_iconst (v := (nI 0)) hx hb dX7_sheet_1 (by decide) ?_
  refine fp_X7_74 X hH dX7_sheet_2 (fun H locs hH => ?_)
  obtain ⟨S1, ex, hf⟩ := bnd_go hf
  replace hH := HH_eq ex hH
  clear ex
  refine lv_iload_n hx hb dX7_sheet_5 rfl (lv_at hl 1 rfl) ?_
  obtain ⟨r4, S2, h3, hf⟩ := cal_g hf
  refine go_i hH (run_S X hH (rest := []) (c_X7_isSheet N S1 x1 h3) gm_X7_87 rfl hl.1 (rmL_ok (by decide) (by decide)) (Nat.le_of_ble_eq_true rfl) rfl dX7_sheet_6) (fun H locs hH => ?_)
  clear h3
  refine lv_if_ne (tgt := 14) hx hb dX7_sheet_9 (by decide) (fun c0 => ?_) (fun c0 => ?_)
  · replace hf := ite_f c0 hf
    refine lv_iload_n hx hb dX7_sheet_14 rfl (lv_at hl 2 rfl) ?_
    obtain ⟨r7, S5, h6, hf⟩ := cal_g hf
    refine go_i hH (run_S X hH (rest := []) (c_X7_isSort N S2 x2 h6) gm_X7_91 rfl hl.1 (rmL_ok (by decide) (by decide)) (Nat.le_of_ble_eq_true rfl) rfl dX7_sheet_15) (fun H locs hH => ?_)
    clear h6
    refine lv_if_eq (tgt := 27) hx hb dX7_sheet_18 (by decide) (fun c0 => ?_) (fun c0 => ?_)
    · replace hf := ite_t c0 hf
      refine lv_bipush (v := (-2 : Int32)) hx hb dX7_sheet_27 (by decide) ?_
      exact r_iret X hH hf dX7_sheet_29
    · replace hf := ite_f c0 hf
      refine lv_iload_n hx hb dX7_sheet_21 rfl (lv_at hl 3 rfl) ?_
      refine lv_bipush (v := (nI 60)) hx hb dX7_sheet_22 (by decide) ?_
      refine lv_icmp_le (tgt := 30) hx hb dX7_sheet_24 (by decide) (fun c0 => ?_) (fun c0 => ?_)
      · replace hf := ite_t c0 hf
        refine lv_iload_n hx hb dX7_sheet_30 rfl (lv_at hl 3 rfl) ?_
        refine lv_if_ge (tgt := 40) hx hb dX7_sheet_31 (by decide) (fun c0 => ?_) (fun c0 => ?_)
        · replace hf := ite_t c0 hf
          refine lv_aload_n hx hb dX7_sheet_40 rfl (lv_at hl 0 rfl) ?_
          refine fg_X7_9 X hH dX7_sheet_41 ?_
          refine lv_iload_n hx hb dX7_sheet_44 rfl (lv_at hl 1 rfl) ?_
          refine lv_iload_n hx hb dX7_sheet_45 rfl (lv_at hl 2 rfl) ?_
          obtain ⟨g, hf⟩ := ite_g hf
          refine r_iast X hH (a_33 E) g dX7_sheet_46 (fun H locs hH => ?_)
          obtain ⟨S8, ex, hf⟩ := bnd_go hf
          replace hH := HH_eq ex hH
          clear ex
          refine lv_aload_n hx hb dX7_sheet_47 rfl (lv_at hl 0 rfl) ?_
          refine fg_X7_13 X hH dX7_sheet_48 ?_
          refine lv_iload_n hx hb dX7_sheet_51 rfl (lv_at hl 1 rfl) ?_
          refine lv_iload_n hx hb dX7_sheet_52 rfl (lv_at hl 3 rfl) ?_
          obtain ⟨g, hf⟩ := ite_g hf
          refine r_iast X hH (a_34 E) g dX7_sheet_53 (fun H locs hH => ?_)
          obtain ⟨S9, ex, hf⟩ := bnd_go hf
          replace hH := HH_eq ex hH
          clear ex
          refine lv_iconst (v := (nI 0)) hx hb dX7_sheet_54 (by decide) ?_
          refine lv_topi (fun y10 ex => ?_)
          replace hf := bnd_at ex hf
          clear ex
          refine lv_istore (lv' := [(4, .int y10), (0, .ref (bb E 32)), (1, .int x1), (2, .int x2), (3, .int x3)]) hx hb dX7_sheet_55 hl (by decide) rfl (fun ls hl => ?_)
          exact w_X7_sheet_57 X N N S9 x1 y10 hf _ _ hH _ (lv_sub hl [1, 2, 0] rfl)
        · replace hf := ite_f c0 hf
          refine lv_aload_n hx hb dX7_sheet_34 rfl (lv_at hl 0 rfl) ?_
          refine lv_iconst (v := (nI 4)) hx hb dX7_sheet_35 (by decide) ?_
          obtain ⟨r13, S11, h12, hf⟩ := cal_g hf
          refine go_i hH (run_V X hH (rest := []) (c_X7_fails N S5 (nI 4) h12) gm_X7_98 (by decide) (e_32 E _) rfl rfl hl.1 (rmL_ok (by decide) (by decide)) (Nat.le_of_ble_eq_true rfl) rfl dX7_sheet_36) (fun H locs hH => ?_)
          clear h12
          exact r_iret X hH hf dX7_sheet_39
      · replace hf := ite_f c0 hf
        refine lv_bipush (v := (-2 : Int32)) hx hb dX7_sheet_27 (by decide) ?_
        exact r_iret X hH hf dX7_sheet_29
  · replace hf := ite_t c0 hf
    refine lv_iconst (v := (-1 : Int32)) hx hb dX7_sheet_12 (by decide) ?_
    exact r_iret X hH hf dX7_sheet_13
theorem c_X7_sheet {l : Launch} {E : Ev} (N : Nat) (S : St) (x1 : Int32) (x2 : Int32) (x3 : Int32) {r : Int32} {S1 : St} (hf : f_X7_sheet N S x1 x2 x3 = some (r, S1)) : Ct l yX7_sheet (.code yX7_sheet cX7_sheet 5 (some .int)) 3 E [.ref (bb E 32), .int x1, .int x2, .int x3] S (QI E r S1) := by
  refine Ct.of (by decide) (Nat.le_of_ble_eq_true rfl) (fun p e s m below meth c ls X hH hl => ?_)
  exact w_X7_sheet_0 X N S x1 x2 x3 hf _ _ hH _ hl
set_option maxRecDepth 100000 in
set_option maxHeartbeats 4000000 in
theorem w_X7_still_18 {p : Program} {l : Launch} {e : Env} {s : State} {m : MethodId} {args : Array Value} {below : List Frame} {meth : Method} {c : Code} {E : Ev} {r : Int32} {S1 : St} (X : GX p s m meth c args cX7_still 4 (some .int) RX7 E) (N : Nat) : ∀ (n : Nat) (S : St) (x1 : Int32) (x2 : Int32) (x3 : Int32), f_X7_still_18 N n S x1 x2 x3 = some (r, S1) → ∀ (H : Heap) (locs : List Loc), HH E S s H locs → ∀ ls : Array Slot, lv_has ls 4 [(0, .ref (bb E 32)), (1, .int x1), (2, .int x2), (3, .int x3)] → W p l e (rmL 5) s m args below meth c H locs 0 0 (MQ below (QI E r S1 s.heap.size) args s 0 0 (AA E s.heap.size)) (F0 m 18 ls []) := by
  have hx := X.1
  have hb := X.2.1
  intro n
  induction n with
  | zero =>
    intro S x1 x2 x3 hf
    cases hf
  | succ n ih =>
    intro S x1 x2 x3 hf H locs hH ls hl
    rw [f_X7_still_18] at hf
    refine lv_iload_n hx hb dX7_still_18 rfl (lv_at hl 3 rfl) ?_
    refine lv_sipush (v := (nI 7737)) hx hb dX7_still_19 (by decide) ?_
    refine lv_icmp_ge (tgt := 55) hx hb dX7_still_22 (by decide) (fun c0 => ?_) (fun c0 => ?_)
    · replace hf := ite_t c0 hf
      refine lv_iload_n hx hb dX7_still_55 rfl (lv_at hl 2 rfl) ?_
      exact r_iret X hH hf dX7_still_56
    · replace hf := ite_f c0 hf
      refine lv_iload_n hx hb dX7_still_25 rfl (lv_at hl 2 rfl) ?_
      refine lv_aload_n hx hb dX7_still_26 rfl (lv_at hl 0 rfl) ?_
      refine fg_X7_59 X hH dX7_still_27 ?_
      refine lv_sipush (v := (nI 7737)) hx hb dX7_still_30 (by decide) ?_
      refine lv_iload_n hx hb dX7_still_33 rfl (lv_at hl 1 rfl) ?_
      refine lv_imul hx hb dX7_still_34 ?_
      refine lv_iload_n hx hb dX7_still_35 rfl (lv_at hl 3 rfl) ?_
      refine lv_iadd hx hb dX7_still_36 ?_
      obtain ⟨g, hf⟩ := ite_g hf
      refine r_iald X hH (a_49 E) g dX7_still_37 ?_
      refine lv_iload_n hx hb dX7_still_38 rfl (lv_at hl 3 rfl) ?_
      refine lv_icmp_ne (tgt := 46) hx hb dX7_still_39 (by decide) (fun c0 => ?_) (fun c0 => ?_)
      · replace hf := ite_f c0 hf
        refine lv_iconst (v := (nI 0)) hx hb dX7_still_46 (by decide) ?_
        refine lv_iadd hx hb dX7_still_47 ?_
        refine lv_topi (fun y1 ex => ?_)
        replace hf := bnd_at ex hf
        clear ex
        refine lv_istore_n (lv' := [(2, .int y1), (0, .ref (bb E 32)), (1, .int x1), (3, .int x3)]) hx hb dX7_still_48 rfl hl (by decide) rfl (fun ls hl => ?_)
        obtain ⟨y2, ex, hf⟩ := bnd_go hf
        refine lv_iinc (v := y2) (lv' := [(3, .int y2), (2, .int y1), (0, .ref (bb E 32)), (1, .int x1)]) hx hb dX7_still_49 hl (k := 3) rfl (by rw [ex]; rfl) (by decide) rfl (fun ls hl => ?_)
        clear ex
        refine lv_goto (tgt := 18) hx hb dX7_still_52 (by decide) ?_
        exact ih S x1 y1 y2 hf _ _ hH _ (lv_sub hl [2, 3, 1, 0] rfl)
      · replace hf := ite_t c0 hf
        refine lv_iconst (v := (nI 1)) hx hb dX7_still_42 (by decide) ?_
        refine lv_goto (tgt := 47) hx hb dX7_still_43 (by decide) ?_
        refine lv_iadd hx hb dX7_still_47 ?_
        refine lv_topi (fun y3 ex => ?_)
        replace hf := bnd_at ex hf
        clear ex
        refine lv_istore_n (lv' := [(2, .int y3), (0, .ref (bb E 32)), (1, .int x1), (3, .int x3)]) hx hb dX7_still_48 rfl hl (by decide) rfl (fun ls hl => ?_)
        obtain ⟨y4, ex, hf⟩ := bnd_go hf
        refine lv_iinc (v := y4) (lv' := [(3, .int y4), (2, .int y3), (0, .ref (bb E 32)), (1, .int x1)]) hx hb dX7_still_49 hl (k := 3) rfl (by rw [ex]; rfl) (by decide) rfl (fun ls hl => ?_)
        clear ex
        refine lv_goto (tgt := 18) hx hb dX7_still_52 (by decide) ?_
        exact ih S x1 y3 y4 hf _ _ hH _ (lv_sub hl [2, 3, 1, 0] rfl)
set_option maxRecDepth 100000 in
set_option maxHeartbeats 4000000 in
theorem w_X7_still_0 {p : Program} {l : Launch} {e : Env} {s : State} {m : MethodId} {args : Array Value} {below : List Frame} {meth : Method} {c : Code} {E : Ev} {r : Int32} {S1 : St} (X : GX p s m meth c args cX7_still 4 (some .int) RX7 E) (N : Nat) : ∀ (S : St) (x1 : Int32), f_X7_still N S x1 = some (r, S1) → ∀ (H : Heap) (locs : List Loc), HH E S s H locs → ∀ ls : Array Slot, lv_has ls 4 [(0, .ref (bb E 32)), (1, .int x1)] → W p l e (rmL 5) s m args below meth c H locs 0 0 (MQ below (QI E r S1 s.heap.size) args s 0 0 (AA E s.heap.size)) (F0 m 0 ls []) := by
  have hx := X.1
  have hb := X.2.1
  intro S x1 hf H locs hH ls hl
  rw [f_X7_still] at hf
  refine lv_aload_n hx hb dX7_still_0 rfl (lv_at hl 0 rfl) ?_
  refine lv_iload_n hx hb dX7_still_1 rfl (lv_at hl 1 rfl) ?_
  obtain ⟨r3, S1, h2, hf⟩ := cal_g hf
  refine go_i hH (run_V X hH (rest := []) (c_X7_isKey N S x1 h2) gm_X7_204 (by decide) (e_32 E _) rfl rfl hl.1 (rmL_ok (by decide) (by decide)) (Nat.le_of_ble_eq_true rfl) rfl dX7_still_2) (fun H locs hH => ?_)
  clear h2
  refine lv_if_ne (tgt := 10) hx hb dX7_still_5 (by decide) (fun c0 => ?_) (fun c0 => ?_)
  · replace hf := ite_f c0 hf
    refine lv_aload_n hx hb dX7_still_10 rfl (lv_at hl 0 rfl) ?_
    obtain ⟨_, S4, h5, hf⟩ := cal_g hf
    refine go_v hH (run_V X hH (rest := []) (c_X7_findMakes N S1 h5) gm_X7_198 (by decide) (e_32 E _) rfl rfl hl.1 (rmL_ok (by decide) (by decide)) (Nat.le_of_ble_eq_true rfl) rfl dX7_still_11) (fun H locs hH => ?_)
    clear h5
    refine lv_iconst (v := (nI 0)) hx hb dX7_still_14 (by decide) ?_
    refine lv_topi (fun y7 ex => ?_)
    replace hf := bnd_at ex hf
    clear ex
    refine lv_istore_n (lv' := [(2, .int y7), (0, .ref (bb E 32)), (1, .int x1)]) hx hb dX7_still_15 rfl hl (by decide) rfl (fun ls hl => ?_)
    refine lv_iconst (v := (nI 0)) hx hb dX7_still_16 (by decide) ?_
    refine lv_topi (fun y8 ex => ?_)
    replace hf := bnd_at ex hf
    clear ex
    refine lv_istore_n (lv' := [(3, .int y8), (2, .int y7), (0, .ref (bb E 32)), (1, .int x1)]) hx hb dX7_still_17 rfl hl (by decide) rfl (fun ls hl => ?_)
    exact w_X7_still_18 X N N S4 x1 y7 y8 hf _ _ hH _ (lv_sub hl [2, 3, 1, 0] rfl)
  · replace hf := ite_t c0 hf
    refine lv_iconst (v := (-1 : Int32)) hx hb dX7_still_8 (by decide) ?_
    exact r_iret X hH hf dX7_still_9
theorem c_X7_still {l : Launch} {E : Ev} (N : Nat) (S : St) (x1 : Int32) {r : Int32} {S1 : St} (hf : f_X7_still N S x1 = some (r, S1)) : Ct l yX7_still (.code yX7_still cX7_still 4 (some .int)) 5 E [.ref (bb E 32), .int x1] S (QI E r S1) := by
  refine Ct.of (by decide) (Nat.le_of_ble_eq_true rfl) (fun p e s m below meth c ls X hH hl => ?_)
  exact w_X7_still_0 X N S x1 hf _ _ hH _ hl
set_option maxRecDepth 100000 in
set_option maxHeartbeats 4000000 in
theorem w_X7_tell_0 {p : Program} {l : Launch} {e : Env} {s : State} {m : MethodId} {args : Array Value} {below : List Frame} {meth : Method} {c : Code} {E : Ev} {r : Int32} {S1 : St} (X : GX p s m meth c args cX7_tell 3 (some .int) RX7 E) (N : Nat) : ∀ (S : St) (x1 : Int32), f_X7_tell N S x1 = some (r, S1) → ∀ (H : Heap) (locs : List Loc), HH E S s H locs → ∀ ls : Array Slot, lv_has ls 3 [(0, .ref (bb E 32)), (1, .int x1)] → W p l e (rmL 2) s m args below meth c H locs 0 0 (MQ below (QI E r S1 s.heap.size) args s 0 0 (AA E s.heap.size)) (F0 m 0 ls []) := by
  have hx := X.1
  have hb := X.2.1
  intro S x1 hf H locs hH ls hl
  rw [f_X7_tell] at hf
  refine lv_aload_n hx hb dX7_tell_0 rfl (lv_at hl 0 rfl) ?_
  refine lv_iload_n hx hb dX7_tell_1 rfl (lv_at hl 1 rfl) ?_
  obtain ⟨r3, S1, h2, hf⟩ := cal_g hf
  refine go_i hH (run_V X hH (rest := []) (c_X7_isMacro N S x1 h2) gm_X7_134 (by decide) (e_32 E _) rfl rfl hl.1 (rmL_ok (by decide) (by decide)) (Nat.le_of_ble_eq_true rfl) rfl dX7_tell_2) (fun H locs hH => ?_)
  clear h2
  refine lv_if_ne (tgt := 10) hx hb dX7_tell_5 (by decide) (fun c0 => ?_) (fun c0 => ?_)
  · replace hf := ite_f c0 hf
    refine lv_aload_n hx hb dX7_tell_10 rfl (lv_at hl 0 rfl) ?_
    refine fg_X7_22 X hH dX7_tell_11 ?_
    refine lv_iload_n hx hb dX7_tell_14 rfl (lv_at hl 1 rfl) ?_
    obtain ⟨g, hf⟩ := ite_g hf
    refine r_iald X hH (a_37 E) g dX7_tell_15 ?_
    refine lv_topi (fun y4 ex => ?_)
    replace hf := bnd_at ex hf
    clear ex
    refine lv_istore_n (lv' := [(2, .int y4), (0, .ref (bb E 32)), (1, .int x1)]) hx hb dX7_tell_16 rfl hl (by decide) rfl (fun ls hl => ?_)
    refine lv_aload_n hx hb dX7_tell_17 rfl (lv_at hl 1 rfl) ?_
    refine fg_X7_19 X hH dX7_tell_18 ?_
    refine lv_iload_n hx hb dX7_tell_21 rfl (lv_at hl 2 rfl) ?_
    obtain ⟨g, hf⟩ := ite_g hf
    refine r_iald X hH (a_36 E) g dX7_tell_22 ?_
    refine lv_topi (fun y5 ex => ?_)
    replace hf := bnd_at ex hf
    clear ex
    by_cases c0 : y5 = (nI 1)
    · replace hf := ite_t c0 hf
      subst c0
      refine lv_lookup (tgt := 48) hx hb dX7_tell_23 (by decide) rfl (by decide) ?_
      refine lv_aload_n hx hb dX7_tell_48 rfl (lv_at hl 1 rfl) ?_
      refine lv_iconst (v := (nI 2)) hx hb dX7_tell_49 (by decide) ?_
      obtain ⟨_, S6, h7, hf⟩ := cal_g hf
      refine go_v hH (run_V X hH (rest := []) (c_X7_begins N S1 (nI 2) h7) gm_X7_221 (by decide) (e_32 E _) rfl rfl hl.1 (rmL_ok (by decide) (by decide)) (Nat.le_of_ble_eq_true rfl) rfl dX7_tell_50) (fun H locs hH => ?_)
      clear h7
      refine lv_aload_n hx hb dX7_tell_53 rfl (lv_at hl 1 rfl) ?_
      refine lv_iconst (v := (nI 1)) hx hb dX7_tell_54 (by decide) ?_
      obtain ⟨_, S9, h10, hf⟩ := cal_g hf
      refine go_v hH (run_V X hH (rest := []) (c_X7_begins N S6 (nI 1) h10) gm_X7_221 (by decide) (e_32 E _) rfl rfl hl.1 (rmL_ok (by decide) (by decide)) (Nat.le_of_ble_eq_true rfl) rfl dX7_tell_55) (fun H locs hH => ?_)
      clear h10
      refine lv_iload_n hx hb dX7_tell_58 rfl (lv_at hl 0 rfl) ?_
      refine lv_bipush (v := (nI 100)) hx hb dX7_tell_59 (by decide) ?_
      refine lv_iadd hx hb dX7_tell_61 ?_
      exact r_iret X hH hf dX7_tell_62
    · replace hf := ite_f c0 hf
      by_cases c1 : y5 = (nI 2)
      · replace hf := ite_t c1 hf
        subst c1
        refine lv_lookup (tgt := 63) hx hb dX7_tell_23 (by decide) rfl (by decide) ?_
        refine lv_aload_n hx hb dX7_tell_63 rfl (lv_at hl 1 rfl) ?_
        refine lv_iconst (v := (nI 3)) hx hb dX7_tell_64 (by decide) ?_
        obtain ⟨_, S12, h13, hf⟩ := cal_g hf
        refine go_v hH (run_V X hH (rest := []) (c_X7_begins N S1 (nI 3) h13) gm_X7_221 (by decide) (e_32 E _) rfl rfl hl.1 (rmL_ok (by decide) (by decide)) (Nat.le_of_ble_eq_true rfl) rfl dX7_tell_65) (fun H locs hH => ?_)
        clear h13
        refine lv_aload_n hx hb dX7_tell_68 rfl (lv_at hl 1 rfl) ?_
        refine lv_iconst (v := (nI 2)) hx hb dX7_tell_69 (by decide) ?_
        obtain ⟨_, S15, h16, hf⟩ := cal_g hf
        refine go_v hH (run_V X hH (rest := []) (c_X7_begins N S12 (nI 2) h16) gm_X7_221 (by decide) (e_32 E _) rfl rfl hl.1 (rmL_ok (by decide) (by decide)) (Nat.le_of_ble_eq_true rfl) rfl dX7_tell_70) (fun H locs hH => ?_)
        clear h16
        refine lv_aload_n hx hb dX7_tell_73 rfl (lv_at hl 1 rfl) ?_
        refine lv_iconst (v := (nI 1)) hx hb dX7_tell_74 (by decide) ?_
        obtain ⟨_, S18, h19, hf⟩ := cal_g hf
        refine go_v hH (run_V X hH (rest := []) (c_X7_begins N S15 (nI 1) h19) gm_X7_221 (by decide) (e_32 E _) rfl rfl hl.1 (rmL_ok (by decide) (by decide)) (Nat.le_of_ble_eq_true rfl) rfl dX7_tell_75) (fun H locs hH => ?_)
        clear h19
        refine lv_aload_n hx hb dX7_tell_78 rfl (lv_at hl 1 rfl) ?_
        refine lv_iconst (v := (nI 1)) hx hb dX7_tell_79 (by decide) ?_
        obtain ⟨_, S21, h22, hf⟩ := cal_g hf
        refine go_v hH (run_V X hH (rest := []) (c_X7_begins N S18 (nI 1) h22) gm_X7_221 (by decide) (e_32 E _) rfl rfl hl.1 (rmL_ok (by decide) (by decide)) (Nat.le_of_ble_eq_true rfl) rfl dX7_tell_80) (fun H locs hH => ?_)
        clear h22
        refine lv_iconst (v := (nI 2)) hx hb dX7_tell_83 (by decide) ?_
        refine lv_iload_n hx hb dX7_tell_84 rfl (lv_at hl 0 rfl) ?_
        refine lv_imul hx hb dX7_tell_85 ?_
        refine lv_bipush (v := (nI 100)) hx hb dX7_tell_86 (by decide) ?_
        refine lv_iadd hx hb dX7_tell_88 ?_
        exact r_iret X hH hf dX7_tell_89
      · replace hf := ite_f c1 hf
        refine lv_lookup (off := 67) (tgt := 90) hx hb dX7_tell_23 (by decide) ((lv_osw (a := 1) (o := 25) (d := 67) (r := [(2, 40)]) c0 rfl).trans ((lv_osw (a := 2) (o := 40) (d := 67) (r := []) c1 rfl).trans rfl)) (by decide) ?_
        refine lv_aload_n hx hb dX7_tell_90 rfl (lv_at hl 1 rfl) ?_
        refine lv_iconst (v := (nI 1)) hx hb dX7_tell_91 (by decide) ?_
        obtain ⟨_, S24, h25, hf⟩ := cal_g hf
        refine go_v hH (run_V X hH (rest := []) (c_X7_begins N S1 (nI 1) h25) gm_X7_221 (by decide) (e_32 E _) rfl rfl hl.1 (rmL_ok (by decide) (by decide)) (Nat.le_of_ble_eq_true rfl) rfl dX7_tell_92) (fun H locs hH => ?_)
        clear h25
        refine lv_iload_n hx hb dX7_tell_95 rfl (lv_at hl 0 rfl) ?_
        exact r_iret X hH hf dX7_tell_96
  · replace hf := ite_t c0 hf
    refine lv_iconst (v := (-1 : Int32)) hx hb dX7_tell_8 (by decide) ?_
    exact r_iret X hH hf dX7_tell_9
theorem c_X7_tell {l : Launch} {E : Ev} (N : Nat) (S : St) (x1 : Int32) {r : Int32} {S1 : St} (hf : f_X7_tell N S x1 = some (r, S1)) : Ct l yX7_tell (.code yX7_tell cX7_tell 3 (some .int)) 2 E [.ref (bb E 32), .int x1] S (QI E r S1) := by
  refine Ct.of (by decide) (Nat.le_of_ble_eq_true rfl) (fun p e s m below meth c ls X hH hl => ?_)
  exact w_X7_tell_0 X N S x1 hf _ _ hH _ hl
set_option maxRecDepth 100000 in
set_option maxHeartbeats 4000000 in
theorem w_X7_times_0 {p : Program} {l : Launch} {e : Env} {s : State} {m : MethodId} {args : Array Value} {below : List Frame} {meth : Method} {c : Code} {E : Ev} {r : Int32} {S1 : St} (X : GX p s m meth c args cX7_times 4 (some .int) RX7 E) (N : Nat) : ∀ (S : St) (x1 : Int32) (x2 : Int32), f_X7_times N S x1 x2 = some (r, S1) → ∀ (H : Heap) (locs : List Loc), HH E S s H locs → ∀ ls : Array Slot, lv_has ls 4 [(0, .ref (bb E 32)), (1, .int x1), (2, .int x2)] → W p l e (rmL 2) s m args below meth c H locs 0 0 (MQ below (QI E r S1 s.heap.size) args s 0 0 (AA E s.heap.size)) (F0 m 0 ls []) := by
  have hx := X.1
  have hb := X.2.1
  intro S x1 x2 hf H locs hH ls hl
  rw [f_X7_times] at hf
  refine lv_aload_n hx hb dX7_times_0 rfl (lv_at hl 0 rfl) ?_
  refine lv_iload_n hx hb dX7_times_1 rfl (lv_at hl 1 rfl) ?_
  obtain ⟨r3, S1, h2, hf⟩ := cal_g hf
  refine go_i hH (run_V X hH (rest := []) (c_X7_isMacro N S x1 h2) gm_X7_134 (by decide) (e_32 E _) rfl rfl hl.1 (rmL_ok (by decide) (by decide)) (Nat.le_of_ble_eq_true rfl) rfl dX7_times_2) (fun H locs hH => ?_)
  clear h2
  refine lv_if_ne (tgt := 10) hx hb dX7_times_5 (by decide) (fun c0 => ?_) (fun c0 => ?_)
  · replace hf := ite_f c0 hf
    refine lv_iload_n hx hb dX7_times_10 rfl (lv_at hl 2 rfl) ?_
    refine lv_iconst (v := (nI 1)) hx hb dX7_times_11 (by decide) ?_
    refine lv_iconst (v := (nI 3)) hx hb dX7_times_12 (by decide) ?_
    obtain ⟨r6, S4, h5, hf⟩ := cal_g hf
    refine go_i hH (run_S X hH (rest := []) (c_X7_within N S1 x2 (nI 1) (nI 3) h5) gm_X7_80 rfl hl.1 (rmL_ok (by decide) (by decide)) (Nat.le_of_ble_eq_true rfl) rfl dX7_times_13) (fun H locs hH => ?_)
    clear h5
    refine lv_if_ne (tgt := 22) hx hb dX7_times_16 (by decide) (fun c0 => ?_) (fun c0 => ?_)
    · replace hf := ite_f c0 hf
      refine lv_aload_n hx hb dX7_times_22 rfl (lv_at hl 0 rfl) ?_
      refine fg_X7_22 X hH dX7_times_23 ?_
      refine lv_iload_n hx hb dX7_times_26 rfl (lv_at hl 1 rfl) ?_
      obtain ⟨g, hf⟩ := ite_g hf
      refine r_iald X hH (a_37 E) g dX7_times_27 ?_
      refine lv_topi (fun y7 ex => ?_)
      replace hf := bnd_at ex hf
      clear ex
      refine lv_istore_n (lv' := [(3, .int y7), (0, .ref (bb E 32)), (1, .int x1), (2, .int x2)]) hx hb dX7_times_28 rfl hl (by decide) rfl (fun ls hl => ?_)
      refine lv_aload_n hx hb dX7_times_29 rfl (lv_at hl 1 rfl) ?_
      refine fg_X7_22 X hH dX7_times_30 ?_
      refine lv_iload_n hx hb dX7_times_33 rfl (lv_at hl 2 rfl) ?_
      refine lv_iload_n hx hb dX7_times_34 rfl (lv_at hl 3 rfl) ?_
      obtain ⟨g, hf⟩ := ite_g hf
      refine r_iast X hH (a_37 E) g dX7_times_35 (fun H locs hH => ?_)
      obtain ⟨S8, ex, hf⟩ := bnd_go hf
      replace hH := HH_eq ex hH
      clear ex
      refine lv_aload_n hx hb dX7_times_36 rfl (lv_at hl 1 rfl) ?_
      refine lv_iconst (v := (nI 0)) hx hb dX7_times_37 (by decide) ?_
      refine fp_X7_120 X hH (by decide) dX7_times_38 (fun H locs hH => ?_)
      obtain ⟨S9, ex, hf⟩ := bnd_go hf
      replace hH := HH_eq ex hH
      clear ex
      refine lv_iload_n hx hb dX7_times_41 rfl (lv_at hl 0 rfl) ?_
      exact r_iret X hH hf dX7_times_42
    · replace hf := ite_t c0 hf
      refine lv_bipush (v := (-2 : Int32)) hx hb dX7_times_19 (by decide) ?_
      exact r_iret X hH hf dX7_times_21
  · replace hf := ite_t c0 hf
    refine lv_iconst (v := (-1 : Int32)) hx hb dX7_times_8 (by decide) ?_
    exact r_iret X hH hf dX7_times_9
theorem c_X7_times {l : Launch} {E : Ev} (N : Nat) (S : St) (x1 : Int32) (x2 : Int32) {r : Int32} {S1 : St} (hf : f_X7_times N S x1 x2 = some (r, S1)) : Ct l yX7_times (.code yX7_times cX7_times 4 (some .int)) 2 E [.ref (bb E 32), .int x1, .int x2] S (QI E r S1) := by
  refine Ct.of (by decide) (Nat.le_of_ble_eq_true rfl) (fun p e s m below meth c ls X hH hl => ?_)
  exact w_X7_times_0 X N S x1 x2 hf _ _ hH _ hl
set_option maxRecDepth 100000 in
set_option maxHeartbeats 4000000 in
theorem w_X7_timings_22 {p : Program} {l : Launch} {e : Env} {s : State} {m : MethodId} {args : Array Value} {below : List Frame} {meth : Method} {c : Code} {E : Ev} {r : Int32} {S1 : St} (X : GX p s m meth c args cX7_timings 5 (some .int) RX7 E) (N : Nat) : ∀ (n : Nat) (S : St) (x1 : Int32) (x2 : Int32) (x3 : Int32) (x4 : Int32), f_X7_timings_22 N n S x1 x2 x3 x4 = some (r, S1) → ∀ (H : Heap) (locs : List Loc), HH E S s H locs → ∀ ls : Array Slot, lv_has ls 5 [(0, .ref (bb E 32)), (1, .int x1), (2, .int x2), (3, .int x3), (4, .int x4)] → W p l e (rmL 6) s m args below meth c H locs 0 0 (MQ below (QI E r S1 s.heap.size) args s 0 0 (AA E s.heap.size)) (F0 m 22 ls []) := by
  have hx := X.1
  have hb := X.2.1
  intro n
  induction n with
  | zero =>
    intro S x1 x2 x3 x4 hf
    cases hf
  | succ n ih =>
    intro S x1 x2 x3 x4 hf H locs hH ls hl
    rw [f_X7_timings_22] at hf
    refine lv_iload hx hb dX7_timings_22 (lv_at hl 4 rfl) ?_
    refine lv_iconst (v := (nI 3)) hx hb dX7_timings_24 (by decide) ?_
    refine lv_icmp_gt (tgt := 60) hx hb dX7_timings_25 (by decide) (fun c0 => ?_) (fun c0 => ?_)
    · replace hf := ite_t c0 hf
      refine lv_aload_n hx hb dX7_timings_60 rfl (lv_at hl 0 rfl) ?_
      refine fg_X7_22 X hH dX7_timings_61 ?_
      refine lv_iload_n hx hb dX7_timings_64 rfl (lv_at hl 1 rfl) ?_
      refine lv_iload_n hx hb dX7_timings_65 rfl (lv_at hl 2 rfl) ?_
      obtain ⟨g, hf⟩ := ite_g hf
      refine r_iast X hH (a_37 E) g dX7_timings_66 (fun H locs hH => ?_)
      obtain ⟨S1, ex, hf⟩ := bnd_go hf
      replace hH := HH_eq ex hH
      clear ex
      refine lv_iload_n hx hb dX7_timings_67 rfl (lv_at hl 3 rfl) ?_
      exact r_iret X hH hf dX7_timings_68
    · replace hf := ite_f c0 hf
      refine lv_aload_n hx hb dX7_timings_28 rfl (lv_at hl 0 rfl) ?_
      refine fg_X7_22 X hH dX7_timings_29 ?_
      refine lv_iload_n hx hb dX7_timings_32 rfl (lv_at hl 1 rfl) ?_
      refine lv_iload hx hb dX7_timings_33 (lv_at hl 4 rfl) ?_
      obtain ⟨g, hf⟩ := ite_g hf
      refine r_iast X hH (a_37 E) g dX7_timings_35 (fun H locs hH => ?_)
      obtain ⟨S2, ex, hf⟩ := bnd_go hf
      replace hH := HH_eq ex hH
      clear ex
      refine lv_iload_n hx hb dX7_timings_36 rfl (lv_at hl 3 rfl) ?_
      refine lv_aload_n hx hb dX7_timings_37 rfl (lv_at hl 0 rfl) ?_
      obtain ⟨r5, S3, h4, hf⟩ := cal_g hf
      refine go_i hH (run_V X hH (rest := [.int x3]) (c_X7_areSo N S2 h4) gm_X7_207 (by decide) (e_32 E _) rfl rfl hl.1 (rmL_ok (by decide) (by decide)) (Nat.le_of_ble_eq_true rfl) rfl dX7_timings_38) (fun H locs hH => ?_)
      clear h4
      refine lv_if_eq (tgt := 51) hx hb dX7_timings_41 (by decide) (fun c0 => ?_) (fun c0 => ?_)
      · replace hf := ite_t c0 hf
        refine lv_iconst (v := (nI 0)) hx hb dX7_timings_51 (by decide) ?_
        refine lv_ior hx hb dX7_timings_52 ?_
        refine lv_topi (fun y6 ex => ?_)
        replace hf := bnd_at ex hf
        clear ex
        refine lv_istore_n (lv' := [(3, .int y6), (0, .ref (bb E 32)), (1, .int x1), (2, .int x2), (4, .int x4)]) hx hb dX7_timings_53 rfl hl (by decide) rfl (fun ls hl => ?_)
        obtain ⟨y7, ex, hf⟩ := bnd_go hf
        refine lv_iinc (v := y7) (lv' := [(4, .int y7), (3, .int y6), (0, .ref (bb E 32)), (1, .int x1), (2, .int x2)]) hx hb dX7_timings_54 hl (k := 4) rfl (by rw [ex]; rfl) (by decide) rfl (fun ls hl => ?_)
        clear ex
        refine lv_goto (tgt := 22) hx hb dX7_timings_57 (by decide) ?_
        exact ih S3 x1 x2 y6 y7 hf _ _ hH _ (lv_sub hl [2, 3, 4, 1, 0] rfl)
      · replace hf := ite_f c0 hf
        refine lv_iconst (v := (nI 1)) hx hb dX7_timings_44 (by decide) ?_
        refine lv_iload hx hb dX7_timings_45 (lv_at hl 4 rfl) ?_
        refine lv_ishl hx hb dX7_timings_47 ?_
        refine lv_goto (tgt := 52) hx hb dX7_timings_48 (by decide) ?_
        refine lv_ior hx hb dX7_timings_52 ?_
        refine lv_topi (fun y8 ex => ?_)
        replace hf := bnd_at ex hf
        clear ex
        refine lv_istore_n (lv' := [(3, .int y8), (0, .ref (bb E 32)), (1, .int x1), (2, .int x2), (4, .int x4)]) hx hb dX7_timings_53 rfl hl (by decide) rfl (fun ls hl => ?_)
        obtain ⟨y9, ex, hf⟩ := bnd_go hf
        refine lv_iinc (v := y9) (lv' := [(4, .int y9), (3, .int y8), (0, .ref (bb E 32)), (1, .int x1), (2, .int x2)]) hx hb dX7_timings_54 hl (k := 4) rfl (by rw [ex]; rfl) (by decide) rfl (fun ls hl => ?_)
        clear ex
        refine lv_goto (tgt := 22) hx hb dX7_timings_57 (by decide) ?_
        exact ih S3 x1 x2 y8 y9 hf _ _ hH _ (lv_sub hl [2, 3, 4, 1, 0] rfl)
set_option maxRecDepth 100000 in
set_option maxHeartbeats 4000000 in
theorem w_X7_timings_0 {p : Program} {l : Launch} {e : Env} {s : State} {m : MethodId} {args : Array Value} {below : List Frame} {meth : Method} {c : Code} {E : Ev} {r : Int32} {S1 : St} (X : GX p s m meth c args cX7_timings 5 (some .int) RX7 E) (N : Nat) : ∀ (S : St) (x1 : Int32), f_X7_timings N S x1 = some (r, S1) → ∀ (H : Heap) (locs : List Loc), HH E S s H locs → ∀ ls : Array Slot, lv_has ls 5 [(0, .ref (bb E 32)), (1, .int x1)] → W p l e (rmL 6) s m args below meth c H locs 0 0 (MQ below (QI E r S1 s.heap.size) args s 0 0 (AA E s.heap.size)) (F0 m 0 ls []) := by
  have hx := X.1
  have hb := X.2.1
  intro S x1 hf H locs hH ls hl
  rw [f_X7_timings] at hf
  refine lv_aload_n hx hb dX7_timings_0 rfl (lv_at hl 0 rfl) ?_
  refine lv_iload_n hx hb dX7_timings_1 rfl (lv_at hl 1 rfl) ?_
  obtain ⟨r3, S1, h2, hf⟩ := cal_g hf
  refine go_i hH (run_V X hH (rest := []) (c_X7_isMacro N S x1 h2) gm_X7_134 (by decide) (e_32 E _) rfl rfl hl.1 (rmL_ok (by decide) (by decide)) (Nat.le_of_ble_eq_true rfl) rfl dX7_timings_2) (fun H locs hH => ?_)
  clear h2
  refine lv_if_ne (tgt := 10) hx hb dX7_timings_5 (by decide) (fun c0 => ?_) (fun c0 => ?_)
  · replace hf := ite_f c0 hf
    refine lv_aload_n hx hb dX7_timings_10 rfl (lv_at hl 0 rfl) ?_
    refine fg_X7_22 X hH dX7_timings_11 ?_
    refine lv_iload_n hx hb dX7_timings_14 rfl (lv_at hl 1 rfl) ?_
    obtain ⟨g, hf⟩ := ite_g hf
    refine r_iald X hH (a_37 E) g dX7_timings_15 ?_
    refine lv_topi (fun y4 ex => ?_)
    replace hf := bnd_at ex hf
    clear ex
    refine lv_istore_n (lv' := [(2, .int y4), (0, .ref (bb E 32)), (1, .int x1)]) hx hb dX7_timings_16 rfl hl (by decide) rfl (fun ls hl => ?_)
    refine lv_iconst (v := (nI 0)) hx hb dX7_timings_17 (by decide) ?_
    refine lv_topi (fun y5 ex => ?_)
    replace hf := bnd_at ex hf
    clear ex
    refine lv_istore_n (lv' := [(3, .int y5), (2, .int y4), (0, .ref (bb E 32)), (1, .int x1)]) hx hb dX7_timings_18 rfl hl (by decide) rfl (fun ls hl => ?_)
    refine lv_iconst (v := (nI 1)) hx hb dX7_timings_19 (by decide) ?_
    refine lv_topi (fun y6 ex => ?_)
    replace hf := bnd_at ex hf
    clear ex
    refine lv_istore (lv' := [(4, .int y6), (3, .int y5), (2, .int y4), (0, .ref (bb E 32)), (1, .int x1)]) hx hb dX7_timings_20 hl (by decide) rfl (fun ls hl => ?_)
    exact w_X7_timings_22 X N N S1 x1 y4 y5 y6 hf _ _ hH _ (lv_sub hl [3, 4, 2, 1, 0] rfl)
  · replace hf := ite_t c0 hf
    refine lv_iconst (v := (-1 : Int32)) hx hb dX7_timings_8 (by decide) ?_
    exact r_iret X hH hf dX7_timings_9
theorem c_X7_timings {l : Launch} {E : Ev} (N : Nat) (S : St) (x1 : Int32) {r : Int32} {S1 : St} (hf : f_X7_timings N S x1 = some (r, S1)) : Ct l yX7_timings (.code yX7_timings cX7_timings 5 (some .int)) 6 E [.ref (bb E 32), .int x1] S (QI E r S1) := by
  refine Ct.of (by decide) (Nat.le_of_ble_eq_true rfl) (fun p e s m below meth c ls X hH hl => ?_)
  exact w_X7_timings_0 X N S x1 hf _ _ hH _ hl
set_option maxRecDepth 100000 in
set_option maxHeartbeats 4000000 in
theorem w_X7_trace_0 {p : Program} {l : Launch} {e : Env} {s : State} {m : MethodId} {args : Array Value} {below : List Frame} {meth : Method} {c : Code} {E : Ev} {r : Int32} {S1 : St} (X : GX p s m meth c args cX7_trace 1 (some .int) RX7 E) (N : Nat) : ∀ (S : St), f_X7_trace N S = some (r, S1) → ∀ (H : Heap) (locs : List Loc), HH E S s H locs → ∀ ls : Array Slot, lv_has ls 1 [(0, .ref (bb E 32))] → W p l e (rmL 1) s m args below meth c H locs 0 0 (MQ below (QI E r S1 s.heap.size) args s 0 0 (AA E s.heap.size)) (F0 m 0 ls []) := by
  have hx := X.1
  have hb := X.2.1
  intro S hf H locs hH ls hl
  rw [f_X7_trace] at hf
  refine lv_aload_n hx hb dX7_trace_0 rfl (lv_at hl 0 rfl) ?_
  refine fg_X7_218 X hH dX7_trace_1 ?_
  exact r_iret X hH hf dX7_trace_4
theorem c_X7_trace {l : Launch} {E : Ev} (N : Nat) (S : St) {r : Int32} {S1 : St} (hf : f_X7_trace N S = some (r, S1)) : Ct l yX7_trace (.code yX7_trace cX7_trace 1 (some .int)) 1 E [.ref (bb E 32)] S (QI E r S1) := by
  refine Ct.of (by decide) (Nat.le_of_ble_eq_true rfl) (fun p e s m below meth c ls X hH hl => ?_)
  exact w_X7_trace_0 X N S hf _ _ hH _ hl
