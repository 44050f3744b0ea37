set_option maxRecDepth 100000 in
set_option maxHeartbeats 4000000 in
theorem w_X0_forget_0 {p : Program} {l : Launch} {e : Env} {s : State} {m : MethodId} {args : Array Value} {below : List Frame} {meth : Method} {c : Code} {E : Ev} {r : Unit} {S1 : St} (X : GX p s m meth c args cX0_forget 2 none RX0 E) (N : Nat) : ∀ (S : St) (x1 : Int32), f_X0_forget N S x1 = some (r, S1) → ∀ (H : Heap) (locs : List Loc), HH E S s H locs → ∀ ls : Array Slot, lv_has ls 2 [(0, .ref (bb E 1)), (1, .int x1)] → W p l e (rmL 3) s m args below meth c H locs 0 0 (MQ below (QV E r S1 s.heap.size) args s 0 0 (AA E s.heap.size)) (F0 m 0 ls []) := by
  have hx := X.1
  have hb := X.2.1
  intro S x1 hf H locs hH ls hl
  rw [f_X0_forget] at hf
  refine lv_iload_n hx hb dX0_forget_0 rfl (lv_at hl 1 rfl) ?_
  refine lv_if_lt (tgt := 25) hx hb dX0_forget_1 (by decide) (fun c0 => ?_) (fun c0 => ?_)
  · replace hf := ite_t c0 hf
    exact r_vret X hH hf dX0_forget_25
  · replace hf := ite_f c0 hf
    refine lv_iload_n hx hb dX0_forget_4 rfl (lv_at hl 1 rfl) ?_
    refine lv_iconst (v := (nI 3)) hx hb dX0_forget_5 (by decide) ?_
    refine lv_icmp_ge (tgt := 25) hx hb dX0_forget_6 (by decide) (fun c0 => ?_) (fun c0 => ?_)
    · replace hf := ite_t c0 hf
      exact r_vret X hH hf dX0_forget_25
    · replace hf := ite_f c0 hf
      refine lv_aload_n hx hb dX0_forget_9 rfl (lv_at hl 0 rfl) ?_
      refine fg_X0_20 X hH dX0_forget_10 ?_
      refine lv_iload_n hx hb dX0_forget_13 rfl (lv_at hl 1 rfl) ?_
      refine lv_sipush (v := (nI 7737)) hx hb dX0_forget_14 (by decide) ?_
      refine lv_imul hx hb dX0_forget_17 ?_
      refine lv_sipush (v := (nI 23211)) hx hb dX0_forget_18 (by decide) ?_
      refine lv_iconst (v := (nI 0)) hx hb dX0_forget_21 (by decide) ?_
      obtain ⟨_, S1, h2, hf⟩ := cal_g hf
      refine go_v hH (run_S X hH (rest := []) (c_J7_fill_fda19 N S 3 23211 (x1 * (nI 7737)) (nI 23211) (nI 0) (a_3 E) h2) gm_X0_54 rfl hl.1 (rmL_ok (by decide) (by decide)) (Nat.le_of_ble_eq_true rfl) rfl dX0_forget_22) (fun H locs hH => ?_)
      clear h2
      exact r_vret X hH hf dX0_forget_25
theorem c_X0_forget {l : Launch} {E : Ev} (N : Nat) (S : St) (x1 : Int32) {r : Unit} {S1 : St} (hf : f_X0_forget N S x1 = some (r, S1)) : Ct l yX0_forget (.code yX0_forget cX0_forget 2 none) 3 E [.ref (bb E 1), .int x1] S (QV E r S1) := by
  refine Ct.of (by decide) (Nat.le_of_ble_eq_true rfl) (fun p e s m below meth c ls X hH hl => ?_)
  exact w_X0_forget_0 X N S x1 hf _ _ hH _ hl
set_option maxRecDepth 100000 in
set_option maxHeartbeats 4000000 in
theorem w_X0_become_10 {p : Program} {l : Launch} {e : Env} {s : State} {m : MethodId} {args : Array Value} {below : List Frame} {meth : Method} {c : Code} {E : Ev} {r : Unit} {S1 : St} (X : GX p s m meth c args cX0_become 3 none RX0 E) (N : Nat) : ∀ (n : Nat) (S : St) (x2 : Int32), f_X0_become_10 N n S x2 = some (r, S1) → ∀ (H : Heap) (locs : List Loc), HH E S s H locs → ∀ ls : Array Slot, lv_has ls 3 [(0, .ref (bb E 1)), (1, .ref (bb E 4)), (2, .int x2)] → W p l e (rmL 4) s m args below meth c H locs 0 0 (MQ below (QV E r S1 s.heap.size) args s 0 0 (AA E s.heap.size)) (F0 m 10 ls []) := by
  have hx := X.1
  have hb := X.2.1
  intro n
  induction n with
  | zero =>
    intro S x2 hf
    cases hf
  | succ n ih =>
    intro S x2 hf H locs hH ls hl
    rw [f_X0_become_10] at hf
    refine lv_iload_n hx hb dX0_become_10 rfl (lv_at hl 2 rfl) ?_
    refine lv_iconst (v := (nI 3)) hx hb dX0_become_11 (by decide) ?_
    refine lv_icmp_ge (tgt := 36) hx hb dX0_become_12 (by decide) (fun c0 => ?_) (fun c0 => ?_)
    · replace hf := ite_t c0 hf
      refine lv_aload_n hx hb dX0_become_36 rfl (lv_at hl 0 rfl) ?_
      refine lv_iconst (v := (nI 0)) hx hb dX0_become_37 (by decide) ?_
      obtain ⟨_, S1, h2, hf⟩ := cal_g hf
      refine go_v hH (run_V X hH (rest := []) (c_X0_forget N S (nI 0) h2) gm_X0_36 (by decide) (e_1 E _) rfl rfl hl.1 (rmL_ok (by decide) (by decide)) (Nat.le_of_ble_eq_true rfl) rfl dX0_become_38) (fun H locs hH => ?_)
      clear h2
      exact r_vret X hH hf dX0_become_41
    · replace hf := ite_f c0 hf
      refine lv_aload_n hx hb dX0_become_15 rfl (lv_at hl 0 rfl) ?_
      refine fg_X0_12 X hH dX0_become_16 ?_
      refine lv_iload_n hx hb dX0_become_19 rfl (lv_at hl 2 rfl) ?_
      obtain ⟨g4, hf⟩ := ite_g hf
      refine r_aald X hH (t0 := 1) (by decide) (e_2 E _) rfl g4 rfl dX0_become_20 ?_
      refine lv_aload_n hx hb dX0_become_21 rfl (lv_at hl 1 rfl) ?_
      refine fg_X0_31 X hH dX0_become_22 ?_
      refine lv_iload_n hx hb dX0_become_25 rfl (lv_at hl 2 rfl) ?_
      obtain ⟨g5, hf⟩ := ite_g hf
      refine r_aald X hH (t0 := 1) (by decide) (e_5 E _) rfl g5 rfl dX0_become_26 ?_
      obtain ⟨_, S6, h7, hf⟩ := cal_g hf
      refine go_v hH (run_V X hH (rest := []) (c_X2_become N S x2.toNatClampNeg (3 + x2.toNatClampNeg) (inb_6 g4) (inb_36 g5) h7) gm_X0_32 (mk54 (inb_6 g4)) (e_mk E (inb_6 g4) _) rfl rfl hl.1 (rmL_ok (by decide) (by decide)) (Nat.le_of_ble_eq_true rfl) rfl dX0_become_27) (fun H locs hH => ?_)
      clear h7
      obtain ⟨y9, ex, hf⟩ := bnd_go hf
      refine lv_iinc (v := y9) (lv' := [(2, .int y9), (0, .ref (bb E 1)), (1, .ref (bb E 4))]) hx hb dX0_become_30 hl (k := 2) rfl (by rw [ex]; rfl) (by decide) rfl (fun ls hl => ?_)
      clear ex
      refine lv_goto (tgt := 10) hx hb dX0_become_33 (by decide) ?_
      exact ih S6 y9 hf _ _ hH _ (lv_sub hl [1, 2, 0] rfl)
set_option maxRecDepth 100000 in
set_option maxHeartbeats 4000000 in
theorem w_X0_become_0 {p : Program} {l : Launch} {e : Env} {s : State} {m : MethodId} {args : Array Value} {below : List Frame} {meth : Method} {c : Code} {E : Ev} {r : Unit} {S1 : St} (X : GX p s m meth c args cX0_become 3 none RX0 E) (N : Nat) : ∀ (S : St), f_X0_become N S = some (r, S1) → ∀ (H : Heap) (locs : List Loc), HH E S s H locs → ∀ ls : Array Slot, lv_has ls 3 [(0, .ref (bb E 1)), (1, .ref (bb E 4))] → W p l e (rmL 4) s m args below meth c H locs 0 0 (MQ below (QV E r S1 s.heap.size) args s 0 0 (AA E s.heap.size)) (F0 m 0 ls []) := by
  have hx := X.1
  have hb := X.2.1
  intro S hf H locs hH ls hl
  rw [f_X0_become] at hf
  refine lv_aload_n hx hb dX0_become_0 rfl (lv_at hl 0 rfl) ?_
  refine lv_aload_n hx hb dX0_become_1 rfl (lv_at hl 1 rfl) ?_
  refine fg_X0_24 X hH dX0_become_2 ?_
  refine fp_X0_30 X hH dX0_become_5 (fun H locs hH => ?_)
  obtain ⟨S1, ex, hf⟩ := bnd_go hf
  replace hH := HH_eq ex hH
  clear ex
  refine lv_iconst (v := (nI 0)) hx hb dX0_become_8 (by decide) ?_
  refine lv_topi (fun y2 ex => ?_)
  replace hf := bnd_at ex hf
  clear ex
  refine lv_istore_n (lv' := [(2, .int y2), (0, .ref (bb E 1)), (1, .ref (bb E 4))]) hx hb dX0_become_9 rfl hl (by decide) rfl (fun ls hl => ?_)
  exact w_X0_become_10 X N N S1 y2 hf _ _ hH _ (lv_sub hl [1, 2, 0] rfl)
theorem c_X0_become {l : Launch} {E : Ev} (N : Nat) (S : St) {r : Unit} {S1 : St} (hf : f_X0_become N S = some (r, S1)) : Ct l yX0_become (.code yX0_become cX0_become 3 none) 4 E [.ref (bb E 1), .ref (bb E 4)] S (QV E r S1) := by
  refine Ct.of (by decide) (Nat.le_of_ble_eq_true rfl) (fun p e s m below meth c ls X hH hl => ?_)
  exact w_X0_become_0 X N S hf _ _ hH _ hl
set_option maxRecDepth 100000 in
set_option maxHeartbeats 4000000 in
theorem w_X0_bumpsOf_0 {p : Program} {l : Launch} {e : Env} {s : State} {m : MethodId} {args : Array Value} {below : List Frame} {meth : Method} {c : Code} {E : Ev} {r : Int32} {S1 : St} (X : GX p s m meth c args cX0_bumpsOf 1 (some .int) RX0 E) (N : Nat) : ∀ (S : St) (x0 : Int32), f_X0_bumpsOf N S x0 = some (r, S1) → ∀ (H : Heap) (locs : List Loc), HH E S s H locs → ∀ ls : Array Slot, lv_has ls 1 [(0, .int x0)] → W p l e (rmL 1) s m args below meth c H locs 0 0 (MQ below (QI E r S1 s.heap.size) args s 0 0 (AA E s.heap.size)) (F0 m 0 ls []) := by
  have hx := X.1
  have hb := X.2.1
  intro S x0 hf H locs hH ls hl
  rw [f_X0_bumpsOf] at hf
  refine lv_iload_n hx hb dX0_bumpsOf_0 rfl (lv_at hl 0 rfl) ?_
  refine lv_bipush (v := (nI 13)) hx hb dX0_bumpsOf_1 (by decide) ?_
  refine lv_ishr hx hb dX0_bumpsOf_3 ?_
  exact r_iret X hH hf dX0_bumpsOf_4
theorem c_X0_bumpsOf {l : Launch} {E : Ev} (N : Nat) (S : St) (x0 : Int32) {r : Int32} {S1 : St} (hf : f_X0_bumpsOf N S x0 = some (r, S1)) : Ct l yX0_bumpsOf (.code yX0_bumpsOf cX0_bumpsOf 1 (some .int)) 1 E [.int x0] S (QI E r S1) := by
  refine Ct.of (by decide) (Nat.le_of_ble_eq_true rfl) (fun p e s m below meth c ls X hH hl => ?_)
  exact w_X0_bumpsOf_0 X N S x0 hf _ _ hH _ hl
set_option maxRecDepth 100000 in
set_option maxHeartbeats 4000000 in
theorem w_X0_macroOf_0 {p : Program} {l : Launch} {e : Env} {s : State} {m : MethodId} {args : Array Value} {below : List Frame} {meth : Method} {c : Code} {E : Ev} {r : Option Nat} {S1 : St} (X : GX p s m meth c args cX0_macroOf 2 (some (.object "MacroKeys$Macro")) RX0 E) (N : Nat) : ∀ (S : St) (x1 : Int32), f_X0_macroOf N S x1 = some (r, S1) → ∀ (H : Heap) (locs : List Loc), HH E S s H locs → ∀ ls : Array Slot, lv_has ls 2 [(0, .ref (bb E 1)), (1, .int x1)] → W p l e (rmL 1) s m args below meth c H locs 0 0 (MQ below (QQ 20 E r S1 s.heap.size) args s 0 0 (AA E s.heap.size)) (F0 m 0 ls []) := by
  have hx := X.1
  have hb := X.2.1
  intro S x1 hf H locs hH ls hl
  rw [f_X0_macroOf] at hf
  refine lv_iload_n hx hb dX0_macroOf_0 rfl (lv_at hl 1 rfl) ?_
  refine lv_if_lt (tgt := 17) hx hb dX0_macroOf_1 (by decide) (fun c0 => ?_) (fun c0 => ?_)
  · replace hf := ite_t c0 hf
    refine lv_null hx hb dX0_macroOf_17 ?_
    refine lv_goto (tgt := 27) hx hb dX0_macroOf_18 (by decide) ?_
    exact r_aret X hH (r0 := none) rfl hf dX0_macroOf_27
  · replace hf := ite_f c0 hf
    refine lv_iload_n hx hb dX0_macroOf_4 rfl (lv_at hl 1 rfl) ?_
    refine lv_aload_n hx hb dX0_macroOf_5 rfl (lv_at hl 0 rfl) ?_
    refine fg_X0_30 X hH dX0_macroOf_6 ?_
    refine lv_icmp_ge (tgt := 17) hx hb dX0_macroOf_9 (by decide) (fun c0 => ?_) (fun c0 => ?_)
    · replace hf := ite_t c0 hf
      refine lv_null hx hb dX0_macroOf_17 ?_
      refine lv_goto (tgt := 27) hx hb dX0_macroOf_18 (by decide) ?_
      exact r_aret X hH (r0 := none) rfl hf dX0_macroOf_27
    · replace hf := ite_f c0 hf
      refine lv_iload_n hx hb dX0_macroOf_12 rfl (lv_at hl 1 rfl) ?_
      refine lv_iconst (v := (nI 3)) hx hb dX0_macroOf_13 (by decide) ?_
      refine lv_icmp_lt (tgt := 21) hx hb dX0_macroOf_14 (by decide) (fun c0 => ?_) (fun c0 => ?_)
      · replace hf := ite_t c0 hf
        refine lv_aload_n hx hb dX0_macroOf_21 rfl (lv_at hl 0 rfl) ?_
        refine fg_X0_12 X hH dX0_macroOf_22 ?_
        refine lv_iload_n hx hb dX0_macroOf_25 rfl (lv_at hl 1 rfl) ?_
        obtain ⟨g1, hf⟩ := ite_g hf
        refine r_aald X hH (t0 := 1) (by decide) (e_2 E _) rfl g1 rfl dX0_macroOf_26 ?_
        exact r_aret X hH (r0 := some x1.toNatClampNeg) rfl hf dX0_macroOf_27
      · replace hf := ite_f c0 hf
        refine lv_null hx hb dX0_macroOf_17 ?_
        refine lv_goto (tgt := 27) hx hb dX0_macroOf_18 (by decide) ?_
        exact r_aret X hH (r0 := none) rfl hf dX0_macroOf_27
theorem c_X0_macroOf {l : Launch} {E : Ev} (N : Nat) (S : St) (x1 : Int32) {r : Option Nat} {S1 : St} (hf : f_X0_macroOf N S x1 = some (r, S1)) : Ct l yX0_macroOf (.code yX0_macroOf cX0_macroOf 2 (some (.object "MacroKeys$Macro"))) 1 E [.ref (bb E 1), .int x1] S (QQ 20 E r S1) := by
  refine Ct.of (by decide) (Nat.le_of_ble_eq_true rfl) (fun p e s m below meth c ls X hH hl => ?_)
  exact w_X0_macroOf_0 X N S x1 hf _ _ hH _ hl
set_option maxRecDepth 100000 in
set_option maxHeartbeats 4000000 in
theorem w_X0_change_31 {p : Program} {l : Launch} {e : Env} {s : State} {m : MethodId} {args : Array Value} {below : List Frame} {meth : Method} {c : Code} {E : Ev} {r : Unit} {S1 : St} (X : GX p s m meth c args cX0_change 5 none RX0 E) (N : Nat) : ∀ (S : St) (x1 : Int32) (x2 : Int32) (x3 : Int32) (j4 : Nat) (hj4 : j4 < 6), f_X0_change_31 N S x1 x2 x3 j4 = some (r, S1) → ∀ (H : Heap) (locs : List Loc), HH E S s H locs → ∀ ls : Array Slot, lv_has ls 5 [(0, .ref (bb E 1)), (1, .int x1), (2, .int x2), (3, .int x3), (4, .ref (bb E (20 + j4)))] → W p l e (rmL 4) s m args below meth c H locs 0 0 (MQ below (QV E r S1 s.heap.size) args s 0 0 (AA E s.heap.size)) (F0 m 31 ls []) := by
  have hx := X.1
  have hb := X.2.1
  intro S x1 x2 x3 j4 hj4 hf H locs hH ls hl
  rw [f_X0_change_31] at hf
  refine lv_aload hx hb dX0_change_31 (lv_at hl 4 rfl) ?_
  refine lv_iload_n hx hb dX0_change_33 rfl (lv_at hl 2 rfl) ?_
  refine fp_X0_48 X hH hj4 dX0_change_34 (fun H locs hH => ?_)
  obtain ⟨S1, ex, hf⟩ := bnd_go hf
  replace hH := HH_eq ex hH
  clear ex
  refine lv_aload hx hb dX0_change_37 (lv_at hl 4 rfl) ?_
  refine lv_iload_n hx hb dX0_change_39 rfl (lv_at hl 3 rfl) ?_
  refine fp_X0_51 X hH hj4 dX0_change_40 (fun H locs hH => ?_)
  obtain ⟨S2, ex, hf⟩ := bnd_go hf
  replace hH := HH_eq ex hH
  clear ex
  refine lv_aload_n hx hb dX0_change_43 rfl (lv_at hl 0 rfl) ?_
  refine lv_iload_n hx hb dX0_change_44 rfl (lv_at hl 1 rfl) ?_
  obtain ⟨_, S3, h4, hf⟩ := cal_g hf
  refine go_v hH (run_V X hH (rest := []) (c_X0_forget N S2 x1 h4) gm_X0_36 (by decide) (e_1 E _) rfl rfl hl.1 (rmL_ok (by decide) (by decide)) (Nat.le_of_ble_eq_true rfl) rfl dX0_change_45) (fun H locs hH => ?_)
  clear h4
  exact r_vret X hH hf dX0_change_48
set_option maxRecDepth 100000 in
set_option maxHeartbeats 4000000 in
theorem w_X0_change_0 {p : Program} {l : Launch} {e : Env} {s : State} {m : MethodId} {args : Array Value} {below : List Frame} {meth : Method} {c : Code} {E : Ev} {r : Unit} {S1 : St} (X : GX p s m meth c args cX0_change 5 none RX0 E) (N : Nat) : ∀ (S : St) (x1 : Int32) (x2 : Int32) (x3 : Int32), f_X0_change N S x1 x2 x3 = some (r, S1) → ∀ (H : Heap) (locs : List Loc), HH E S s H locs → ∀ ls : Array Slot, lv_has ls 5 [(0, .ref (bb E 1)), (1, .int x1), (2, .int x2), (3, .int x3)] → W p l e (rmL 4) s m args below meth c H locs 0 0 (MQ below (QV E r S1 s.heap.size) args s 0 0 (AA E s.heap.size)) (F0 m 0 ls []) := by
  have hx := X.1
  have hb := X.2.1
  intro S x1 x2 x3 hf H locs hH ls hl
  rw [f_X0_change] at hf
  refine lv_aload_n hx hb dX0_change_0 rfl (lv_at hl 0 rfl) ?_
  refine lv_iload_n hx hb dX0_change_1 rfl (lv_at hl 1 rfl) ?_
  obtain ⟨r3, S1, h2, hf⟩ := cal_g hf
  refine go_q hH (run_V X hH (rest := []) (c_X0_macroOf N S x1 h2) gm_X0_44 (by decide) (e_1 E _) rfl rfl hl.1 (rmL_ok (by decide) (by decide)) (Nat.le_of_ble_eq_true rfl) rfl dX0_change_2) (fun H locs hH => ?_)
  clear h2
  cases r3 with
  | none =>
    replace hf := opt_n hf
    refine lv_astoreN (lv' := [(4, .null), (0, .ref (bb E 1)), (1, .int x1), (2, .int x2), (3, .int x3)]) hx hb dX0_change_5 hl (by decide) rfl (fun ls hl => ?_)
    refine lv_aloadN hx hb dX0_change_7 (lv_at hl 0 rfl) ?_
    refine lv_ifnullN (tgt := 30) hx hb dX0_change_9 (by decide) ?_
    exact r_vret X hH hf dX0_change_30
  | some j4 =>
    replace hf := opt_s hf
    obtain ⟨hj4, hf⟩ := ite_g hf
    refine lv_astore (lv' := [(4, .ref (bb E (20 + j4))), (0, .ref (bb E 1)), (1, .int x1), (2, .int x2), (3, .int x3)]) hx hb dX0_change_5 hl (by decide) rfl (fun ls hl => ?_)
    refine lv_aload hx hb dX0_change_7 (lv_at hl 0 rfl) ?_
    refine lv_ifnull hx hb dX0_change_9 ?_
    refine lv_aload hx hb dX0_change_12 (lv_at hl 0 rfl) ?_
    refine fg_X0_48 X hH hj4 dX0_change_14 ?_
    refine lv_iload_n hx hb dX0_change_17 rfl (lv_at hl 3 rfl) ?_
    refine lv_icmp_ne (tgt := 31) hx hb dX0_change_18 (by decide) (fun c0 => ?_) (fun c0 => ?_)
    · replace hf := ite_f c0 hf
      exact w_X0_change_31 X N S1 x1 x2 x3 j4 hj4 hf _ _ hH _ (lv_sub hl [1, 2, 3, 4, 0] rfl)
    · replace hf := ite_t c0 hf
      refine lv_aload hx hb dX0_change_21 (lv_at hl 0 rfl) ?_
      refine fg_X0_51 X hH hj4 dX0_change_23 ?_
      refine lv_iload_n hx hb dX0_change_26 rfl (lv_at hl 4 rfl) ?_
      refine lv_icmp_ne (tgt := 31) hx hb dX0_change_27 (by decide) (fun c0 => ?_) (fun c0 => ?_)
      · replace hf := ite_f c0 hf
        exact w_X0_change_31 X N S1 x1 x2 x3 j4 hj4 hf _ _ hH _ (lv_sub hl [1, 2, 3, 4, 0] rfl)
      · replace hf := ite_t c0 hf
        exact r_vret X hH hf dX0_change_30
theorem c_X0_change {l : Launch} {E : Ev} (N : Nat) (S : St) (x1 : Int32) (x2 : Int32) (x3 : Int32) {r : Unit} {S1 : St} (hf : f_X0_change N S x1 x2 x3 = some (r, S1)) : Ct l yX0_change (.code yX0_change cX0_change 5 none) 4 E [.ref (bb E 1), .int x1, .int x2, .int x3] S (QV E r S1) := by
  refine Ct.of (by decide) (Nat.le_of_ble_eq_true rfl) (fun p e s m below meth c ls X hH hl => ?_)
  exact w_X0_change_0 X N S x1 x2 x3 hf _ _ hH _ hl
set_option maxRecDepth 100000 in
set_option maxHeartbeats 4000000 in
theorem w_X0_lineOf_0 {p : Program} {l : Launch} {e : Env} {s : State} {m : MethodId} {args : Array Value} {below : List Frame} {meth : Method} {c : Code} {E : Ev} {r : Int32} {S1 : St} (X : GX p s m meth c args cX0_lineOf 1 (some .int) RX0 E) (N : Nat) : ∀ (S : St) (x0 : Int32), f_X0_lineOf N S x0 = some (r, S1) → ∀ (H : Heap) (locs : List Loc), HH E S s H locs → ∀ ls : Array Slot, lv_has ls 1 [(0, .int x0)] → W p l e (rmL 1) s m args below meth c H locs 0 0 (MQ below (QI E r S1 s.heap.size) args s 0 0 (AA E s.heap.size)) (F0 m 0 ls []) := by
  have hx := X.1
  have hb := X.2.1
  intro S x0 hf H locs hH ls hl
  rw [f_X0_lineOf] at hf
  refine lv_iload_n hx hb dX0_lineOf_0 rfl (lv_at hl 0 rfl) ?_
  refine lv_sipush (v := (nI 8191)) hx hb dX0_lineOf_1 (by decide) ?_
  refine lv_iand hx hb dX0_lineOf_4 ?_
  exact r_iret X hH hf dX0_lineOf_5
theorem c_X0_lineOf {l : Launch} {E : Ev} (N : Nat) (S : St) (x0 : Int32) {r : Int32} {S1 : St} (hf : f_X0_lineOf N S x0 = some (r, S1)) : Ct l yX0_lineOf (.code yX0_lineOf cX0_lineOf 1 (some .int)) 1 E [.int x0] S (QI E r S1) := by
  refine Ct.of (by decide) (Nat.le_of_ble_eq_true rfl) (fun p e s m below meth c ls X hH hl => ?_)
  exact w_X0_lineOf_0 X N S x0 hf _ _ hH _ hl
set_option maxRecDepth 100000 in
set_option maxHeartbeats 4000000 in
theorem w_X0_played_25 {p : Program} {l : Launch} {e : Env} {s : State} {m : MethodId} {args : Array Value} {below : List Frame} {meth : Method} {c : Code} {E : Ev} {r : Int32} {S1 : St} (X : GX p s m meth c args cX0_played 11 (some .int) RX0 E) (N : Nat) {kr : Nat} (fe : St → Int32 → Int32 → Option (Int32 × St)) (hfe : ∀ (S : St) (x1 : Int32) (x2 : Int32) (r : Int32) (S1 : St), fe S x1 x2 = some (r, S1) → Ct l yX0_effectOf (.code yX0_effectOf cX0_effectOf 6 (some .int)) kr E [.ref (bb E 1), .int x1, .int x2] S (QI E r S1)) (k15 : St → Nat → Int32 → Int32 → Int32 → Int32 → Int32 → Option (Int32 × St)) (hk15 : ∀ (S : St) (j2 : Nat) (x3 : Int32) (x4 : Int32) (x5 : Int32) (x6 : Int32) (x7 : Int32) (hj2 : j2 < 6), k15 S j2 x3 x4 x5 x6 x7 = some (r, S1) → ∀ (H : Heap) (locs : List Loc), HH E S s H locs → ∀ ls : Array Slot, lv_has ls 11 [(0, .ref (bb E 1)), (2, .ref (bb E (20 + j2))), (3, .int x3), (4, .int x4), (5, .int x5), (6, .int x6), (7, .int x7)] → W p l e (rmL (kr + 10)) s m args below meth c H locs 0 0 (MQ below (QI E r S1 s.heap.size) args s 0 0 (AA E s.heap.size)) (F0 m 15 ls [])) : ∀ (n : Nat) (S : St) (j2 : Nat) (x3 : Int32) (x4 : Int32) (x5 : Int32) (x6 : Int32) (x7 : Int32) (x8 : Int32) (hj2 : j2 < 6), f_X0_played_25 N fe k15 n S j2 x3 x4 x5 x6 x7 x8 = some (r, S1) → ∀ (H : Heap) (locs : List Loc), HH E S s H locs → ∀ ls : Array Slot, lv_has ls 11 [(0, .ref (bb E 1)), (2, .ref (bb E (20 + j2))), (3, .int x3), (4, .int x4), (5, .int x5), (6, .int x6), (7, .int x7), (8, .int x8)] → W p l e (rmL (kr + 10)) s m args below meth c H locs 0 0 (MQ below (QI E r S1 s.heap.size) args s 0 0 (AA E s.heap.size)) (F0 m 25 ls []) := by
  have hx := X.1
  have hb := X.2.1
  intro n
  induction n with
  | zero =>
    intro S j2 x3 x4 x5 x6 x7 x8 hj2 hf
    cases hf
  | succ n ih =>
    intro S j2 x3 x4 x5 x6 x7 x8 hj2 hf H locs hH ls hl
    rw [f_X0_played_25] at hf
    refine lv_iload hx hb dX0_played_25 (lv_at hl 7 rfl) ?_
    refine lv_aload_n hx hb dX0_played_27 rfl (lv_at hl 1 rfl) ?_
    refine fg_X0_60 X hH hj2 dX0_played_28 ?_
    refine lv_icmp_ge (tgt := 84) hx hb dX0_played_31 (by decide) (fun c0 => ?_) (fun c0 => ?_)
    · replace hf := ite_t c0 hf
      obtain ⟨y1, ex, hf⟩ := bnd_go hf
      refine lv_iinc (v := y1) (lv' := [(7, .int y1), (0, .ref (bb E 1)), (2, .ref (bb E (20 + j2))), (3, .int x3), (4, .int x4), (5, .int x5), (6, .int x6), (8, .int x8)]) hx hb dX0_played_84 hl (k := 6) rfl (by rw [ex]; rfl) (by decide) rfl (fun ls hl => ?_)
      clear ex
      refine lv_goto (tgt := 15) hx hb dX0_played_87 (by decide) ?_
      exact hk15 S j2 x3 x4 x5 x6 y1 hj2 hf _ _ hH _ (lv_sub hl [1, 2, 3, 4, 5, 6, 0] rfl)
    · replace hf := ite_f c0 hf
      refine lv_aload_n hx hb dX0_played_34 rfl (lv_at hl 1 rfl) ?_
      refine lv_iload hx hb dX0_played_35 (lv_at hl 7 rfl) ?_
      obtain ⟨r4, S2, h3, hf⟩ := cal_g hf
      refine go_i hH (run_V X hH (rest := []) (c_X2_keyAt N S j2 x8 hj2 h3) gm_X0_63 (mk54 hj2) (e_mk E hj2 _) rfl rfl hl.1 (rmL_ok (by omega) (by decide)) (Nat.le_of_ble_eq_true rfl) rfl dX0_played_37) (fun H locs hH => ?_)
      clear h3
      refine lv_istore (lv' := [(9, .int r4), (0, .ref (bb E 1)), (2, .ref (bb E (20 + j2))), (3, .int x3), (4, .int x4), (5, .int x5), (6, .int x6), (7, .int x7), (8, .int x8)]) hx hb dX0_played_40 hl (by decide) rfl (fun ls hl => ?_)
      refine lv_iload hx hb dX0_played_42 (lv_at hl 0 rfl) ?_
      refine lv_bipush (v := (nI 8)) hx hb dX0_played_44 (by decide) ?_
      refine lv_iload_n hx hb dX0_played_46 rfl (lv_at hl 3 rfl) ?_
      refine lv_iadd hx hb dX0_played_47 ?_
      refine lv_icmp_ge (tgt := 78) hx hb dX0_played_48 (by decide) (fun c0 => ?_) (fun c0 => ?_)
      · replace hf := ite_t c0 hf
        obtain ⟨y5, ex, hf⟩ := bnd_go hf
        refine lv_iinc (v := y5) (lv' := [(8, .int y5), (9, .int r4), (0, .ref (bb E 1)), (2, .ref (bb E (20 + j2))), (3, .int x3), (4, .int x4), (5, .int x5), (6, .int x6), (7, .int x7)]) hx hb dX0_played_78 hl (k := 8) rfl (by rw [ex]; rfl) (by decide) rfl (fun ls hl => ?_)
        clear ex
        refine lv_goto (tgt := 25) hx hb dX0_played_81 (by decide) ?_
        exact ih S2 j2 x3 x4 x5 x6 x7 y5 hj2 hf _ _ hH _ (lv_sub hl [2, 3, 4, 5, 6, 7, 8, 0] rfl)
      · replace hf := ite_f c0 hf
        refine lv_aload_n hx hb dX0_played_51 rfl (lv_at hl 1 rfl) ?_
        refine lv_iload hx hb dX0_played_52 (lv_at hl 4 rfl) ?_
        refine lv_iload hx hb dX0_played_54 (lv_at hl 0 rfl) ?_
        obtain ⟨r8, S6, h7, hf⟩ := cal_g hf
        refine go_i hH (run_V X hH (rest := []) (hfe S2 x4 r4 _ _ h7) gm_X0_73 (by decide) (e_1 E _) rfl rfl hl.1 (rmL_ok (by omega) (by decide)) (Nat.le_of_ble_eq_true rfl) rfl dX0_played_56) (fun H locs hH => ?_)
        clear h7
        refine lv_istore (lv' := [(10, .int r8), (9, .int r4), (0, .ref (bb E 1)), (2, .ref (bb E (20 + j2))), (3, .int x3), (4, .int x4), (5, .int x5), (6, .int x6), (7, .int x7), (8, .int x8)]) hx hb dX0_played_59 hl (by decide) rfl (fun ls hl => ?_)
        refine lv_iload hx hb dX0_played_61 (lv_at hl 6 rfl) ?_
        refine lv_iload hx hb dX0_played_63 (lv_at hl 0 rfl) ?_
        obtain ⟨r11, S9, h10, hf⟩ := cal_g hf
        refine go_i hH (run_S X hH (rest := [.int x5]) (c_X0_bumpsOf N S6 r8 h10) gm_X0_91 rfl hl.1 (rmL_ok (by omega) (by decide)) (Nat.le_of_ble_eq_true rfl) rfl dX0_played_65) (fun H locs hH => ?_)
        clear h10
        refine lv_iadd hx hb dX0_played_68 ?_
        refine lv_topi (fun y12 ex => ?_)
        replace hf := bnd_at ex hf
        clear ex
        refine lv_istore (lv' := [(5, .int y12), (10, .int r8), (9, .int r4), (0, .ref (bb E 1)), (2, .ref (bb E (20 + j2))), (3, .int x3), (4, .int x4), (6, .int x6), (7, .int x7), (8, .int x8)]) hx hb dX0_played_69 hl (by decide) rfl (fun ls hl => ?_)
        refine lv_iload hx hb dX0_played_71 (lv_at hl 1 rfl) ?_
        obtain ⟨r15, S13, h14, hf⟩ := cal_g hf
        refine go_i hH (run_S X hH (rest := []) (c_X0_lineOf N S9 r8 h14) gm_X0_77 rfl hl.1 (rmL_ok (by omega) (by decide)) (Nat.le_of_ble_eq_true rfl) rfl dX0_played_73) (fun H locs hH => ?_)
        clear h14
        refine lv_istore (lv' := [(4, .int r15), (5, .int y12), (10, .int r8), (9, .int r4), (0, .ref (bb E 1)), (2, .ref (bb E (20 + j2))), (3, .int x3), (6, .int x6), (7, .int x7), (8, .int x8)]) hx hb dX0_played_76 hl (by decide) rfl (fun ls hl => ?_)
        obtain ⟨y16, ex, hf⟩ := bnd_go hf
        refine lv_iinc (v := y16) (lv' := [(8, .int y16), (4, .int r15), (5, .int y12), (10, .int r8), (9, .int r4), (0, .ref (bb E 1)), (2, .ref (bb E (20 + j2))), (3, .int x3), (6, .int x6), (7, .int x7)]) hx hb dX0_played_78 hl (k := 9) rfl (by rw [ex]; rfl) (by decide) rfl (fun ls hl => ?_)
        clear ex
        refine lv_goto (tgt := 25) hx hb dX0_played_81 (by decide) ?_
        exact ih S13 j2 x3 r15 y12 x6 x7 y16 hj2 hf _ _ hH _ (lv_sub hl [5, 6, 7, 1, 2, 8, 9, 0] rfl)
set_option maxRecDepth 100000 in
set_option maxHeartbeats 4000000 in
theorem w_X0_played_15 {p : Program} {l : Launch} {e : Env} {s : State} {m : MethodId} {args : Array Value} {below : List Frame} {meth : Method} {c : Code} {E : Ev} {r : Int32} {S1 : St} (X : GX p s m meth c args cX0_played 11 (some .int) RX0 E) (N : Nat) {kr : Nat} (fe : St → Int32 → Int32 → Option (Int32 × St)) (hfe : ∀ (S : St) (x1 : Int32) (x2 : Int32) (r : Int32) (S1 : St), fe S x1 x2 = some (r, S1) → Ct l yX0_effectOf (.code yX0_effectOf cX0_effectOf 6 (some .int)) kr E [.ref (bb E 1), .int x1, .int x2] S (QI E r S1)) : ∀ (n : Nat) (S : St) (j2 : Nat) (x3 : Int32) (x4 : Int32) (x5 : Int32) (x6 : Int32) (x7 : Int32) (hj2 : j2 < 6), f_X0_played_15 N fe n S j2 x3 x4 x5 x6 x7 = some (r, S1) → ∀ (H : Heap) (locs : List Loc), HH E S s H locs → ∀ ls : Array Slot, lv_has ls 11 [(0, .ref (bb E 1)), (2, .ref (bb E (20 + j2))), (3, .int x3), (4, .int x4), (5, .int x5), (6, .int x6), (7, .int x7)] → W p l e (rmL (kr + 10)) s m args below meth c H locs 0 0 (MQ below (QI E r S1 s.heap.size) args s 0 0 (AA E s.heap.size)) (F0 m 15 ls []) := by
  have hx := X.1
  have hb := X.2.1
  intro n
  induction n with
  | zero =>
    intro S j2 x3 x4 x5 x6 x7 hj2 hf
    cases hf
  | succ n ih =>
    intro S j2 x3 x4 x5 x6 x7 hj2 hf H locs hH ls hl
    rw [f_X0_played_15] at hf
    refine lv_iload hx hb dX0_played_15 (lv_at hl 6 rfl) ?_
    refine lv_iload hx hb dX0_played_17 (lv_at hl 5 rfl) ?_
    refine lv_icmp_ge (tgt := 90) hx hb dX0_played_19 (by decide) (fun c0 => ?_) (fun c0 => ?_)
    · replace hf := ite_t c0 hf
      refine lv_iload hx hb dX0_played_90 (lv_at hl 4 rfl) ?_
      refine lv_bipush (v := (nI 13)) hx hb dX0_played_92 (by decide) ?_
      refine lv_ishl hx hb dX0_played_94 ?_
      refine lv_iload hx hb dX0_played_95 (lv_at hl 3 rfl) ?_
      refine lv_ior hx hb dX0_played_97 ?_
      exact r_iret X hH hf dX0_played_98
    · replace hf := ite_f c0 hf
      refine lv_iconst (v := (nI 0)) hx hb dX0_played_22 (by decide) ?_
      refine lv_topi (fun y1 ex => ?_)
      replace hf := bnd_at ex hf
      clear ex
      refine lv_istore (lv' := [(8, .int y1), (0, .ref (bb E 1)), (2, .ref (bb E (20 + j2))), (3, .int x3), (4, .int x4), (5, .int x5), (6, .int x6), (7, .int x7)]) hx hb dX0_played_23 hl (by decide) rfl (fun ls hl => ?_)
      exact w_X0_played_25 X N fe hfe (f_X0_played_15 N fe n) ih N S j2 x3 x4 x5 x6 x7 y1 hj2 hf _ _ hH _ (lv_sub hl [1, 2, 3, 4, 5, 6, 7, 0] rfl)
set_option maxRecDepth 100000 in
set_option maxHeartbeats 4000000 in
theorem w_X0_played_0 {p : Program} {l : Launch} {e : Env} {s : State} {m : MethodId} {args : Array Value} {below : List Frame} {meth : Method} {c : Code} {E : Ev} {r : Int32} {S1 : St} (X : GX p s m meth c args cX0_played 11 (some .int) RX0 E) (N : Nat) {kr : Nat} (fe : St → Int32 → Int32 → Option (Int32 × St)) (hfe : ∀ (S : St) (x1 : Int32) (x2 : Int32) (r : Int32) (S1 : St), fe S x1 x2 = some (r, S1) → Ct l yX0_effectOf (.code yX0_effectOf cX0_effectOf 6 (some .int)) kr E [.ref (bb E 1), .int x1, .int x2] S (QI E r S1)) : ∀ (S : St) (x1 : Int32) (j2 : Nat) (x3 : Int32) (hj2 : j2 < 6), f_X0_played N fe S x1 j2 x3 = some (r, S1) → ∀ (H : Heap) (locs : List Loc), HH E S s H locs → ∀ ls : Array Slot, lv_has ls 11 [(0, .ref (bb E 1)), (1, .int x1), (2, .ref (bb E (20 + j2))), (3, .int x3)] → W p l e (rmL (kr + 10)) s m args below meth c H locs 0 0 (MQ below (QI E r S1 s.heap.size) args s 0 0 (AA E s.heap.size)) (F0 m 0 ls []) := by
  have hx := X.1
  have hb := X.2.1
  intro S x1 j2 x3 hj2 hf H locs hH ls hl
  rw [f_X0_played] at hf
  refine lv_iload_n hx hb dX0_played_0 rfl (lv_at hl 1 rfl) ?_
  refine lv_istore (lv' := [(4, .int x1), (0, .ref (bb E 1)), (1, .int x1), (2, .ref (bb E (20 + j2))), (3, .int x3)]) hx hb dX0_played_1 hl (by decide) rfl (fun ls hl => ?_)
  refine lv_iconst (v := (nI 0)) hx hb dX0_played_3 (by decide) ?_
  refine lv_topi (fun y1 ex => ?_)
  replace hf := bnd_at ex hf
  clear ex
  refine lv_istore (lv' := [(5, .int y1), (4, .int x1), (0, .ref (bb E 1)), (1, .int x1), (2, .ref (bb E (20 + j2))), (3, .int x3)]) hx hb dX0_played_4 hl (by decide) rfl (fun ls hl => ?_)
  refine lv_aload_n hx hb dX0_played_6 rfl (lv_at hl 4 rfl) ?_
  obtain ⟨r4, S2, h3, hf⟩ := cal_g hf
  refine go_i hH (run_V X hH (rest := []) (c_X2_often N S j2 hj2 h3) gm_X0_70 (mk54 hj2) (e_mk E hj2 _) rfl rfl hl.1 (rmL_ok (by omega) (by decide)) (Nat.le_of_ble_eq_true rfl) rfl dX0_played_7) (fun H locs hH => ?_)
  clear h3
  refine lv_istore (lv' := [(6, .int r4), (5, .int y1), (4, .int x1), (0, .ref (bb E 1)), (1, .int x1), (2, .ref (bb E (20 + j2))), (3, .int x3)]) hx hb dX0_played_10 hl (by decide) rfl (fun ls hl => ?_)
  refine lv_iconst (v := (nI 0)) hx hb dX0_played_12 (by decide) ?_
  refine lv_topi (fun y5 ex => ?_)
  replace hf := bnd_at ex hf
  clear ex
  refine lv_istore (lv' := [(7, .int y5), (6, .int r4), (5, .int y1), (4, .int x1), (0, .ref (bb E 1)), (1, .int x1), (2, .ref (bb E (20 + j2))), (3, .int x3)]) hx hb dX0_played_13 hl (by decide) rfl (fun ls hl => ?_)
  exact w_X0_played_15 X N fe hfe N S2 j2 x3 x1 y1 r4 y5 hj2 hf _ _ hH _ (lv_sub hl [4, 6, 7, 3, 2, 1, 0] rfl)
theorem c_X0_played {l : Launch} {E : Ev} (N : Nat) {kr : Nat} (fe : St → Int32 → Int32 → Option (Int32 × St)) (hfe : ∀ (S : St) (x1 : Int32) (x2 : Int32) (r : Int32) (S1 : St), fe S x1 x2 = some (r, S1) → Ct l yX0_effectOf (.code yX0_effectOf cX0_effectOf 6 (some .int)) kr E [.ref (bb E 1), .int x1, .int x2] S (QI E r S1)) (S : St) (x1 : Int32) (j2 : Nat) (x3 : Int32) (hj2 : j2 < 6) {r : Int32} {S1 : St} (hf : f_X0_played N fe S x1 j2 x3 = some (r, S1)) : Ct l yX0_played (.code yX0_played cX0_played 11 (some .int)) (kr + 10) E [.ref (bb E 1), .int x1, .ref (bb E (20 + j2)), .int x3] S (QI E r S1) := by
  refine Ct.of (by decide) (Nat.le_of_ble_eq_true rfl) (fun p e s m below meth c ls X hH hl => ?_)
  exact w_X0_played_0 X N fe hfe S x1 j2 x3 hj2 hf _ _ hH _ hl
set_option maxRecDepth 100000 in
set_option maxHeartbeats 4000000 in
theorem w_X0_effectOf_89 {p : Program} {l : Launch} {e : Env} {s : State} {m : MethodId} {args : Array Value} {below : List Frame} {meth : Method} {c : Code} {E : Ev} {r : Int32} {S1 : St} (X : GX p s m meth c args cX0_effectOf 6 (some .int) RX0 E) (N : Nat) {kr : Nat} (fe : St → Int32 → Int32 → Option (Int32 × St)) (hfe : ∀ (S : St) (x1 : Int32) (x2 : Int32) (r : Int32) (S1 : St), fe S x1 x2 = some (r, S1) → Ct l yX0_effectOf (.code yX0_effectOf cX0_effectOf 6 (some .int)) kr E [.ref (bb E 1), .int x1, .int x2] S (QI E r S1)) : ∀ (S : St) (x5 : Int32), f_X0_effectOf_89 N fe S x5 = some (r, S1) → ∀ (H : Heap) (locs : List Loc), HH E S s H locs → ∀ ls : Array Slot, lv_has ls 6 [(0, .ref (bb E 1)), (5, .int x5)] → W p l e (rmL (kr + 11)) s m args below meth c H locs 0 0 (MQ below (QI E r S1 s.heap.size) args s 0 0 (AA E s.heap.size)) (F0 m 89 ls []) := by
  have hx := X.1
  have hb := X.2.1
  intro S x5 hf H locs hH ls hl
  rw [f_X0_effectOf_89] at hf
  refine lv_aload_n hx hb dX0_effectOf_89 rfl (lv_at hl 0 rfl) ?_
  refine fg_X0_20 X hH dX0_effectOf_90 ?_
  refine lv_iload hx hb dX0_effectOf_93 (lv_at hl 1 rfl) ?_
  obtain ⟨g, hf⟩ := ite_g hf
  refine r_iald X hH (a_3 E) g dX0_effectOf_95 ?_
  refine lv_iconst (v := (nI 1)) hx hb dX0_effectOf_96 (by decide) ?_
  refine lv_isub hx hb dX0_effectOf_97 ?_
  exact r_iret X hH hf dX0_effectOf_98
set_option maxRecDepth 100000 in
set_option maxHeartbeats 4000000 in
theorem w_X0_effectOf_0 {p : Program} {l : Launch} {e : Env} {s : State} {m : MethodId} {args : Array Value} {below : List Frame} {meth : Method} {c : Code} {E : Ev} {r : Int32} {S1 : St} (X : GX p s m meth c args cX0_effectOf 6 (some .int) RX0 E) (N : Nat) {kr : Nat} (fe : St → Int32 → Int32 → Option (Int32 × St)) (hfe : ∀ (S : St) (x1 : Int32) (x2 : Int32) (r : Int32) (S1 : St), fe S x1 x2 = some (r, S1) → Ct l yX0_effectOf (.code yX0_effectOf cX0_effectOf 6 (some .int)) kr E [.ref (bb E 1), .int x1, .int x2] S (QI E r S1)) : ∀ (S : St) (x1 : Int32) (x2 : Int32), f_X0_effectOf N fe S x1 x2 = some (r, S1) → ∀ (H : Heap) (locs : List Loc), HH E S s H locs → ∀ ls : Array Slot, lv_has ls 6 [(0, .ref (bb E 1)), (1, .int x1), (2, .int x2)] → W p l e (rmL (kr + 11)) s m args below meth c H locs 0 0 (MQ below (QI E r S1 s.heap.size) args s 0 0 (AA E s.heap.size)) (F0 m 0 ls []) := by
  have hx := X.1
  have hb := X.2.1
  intro S x1 x2 hf H locs hH ls hl
  rw [f_X0_effectOf] at hf
  refine lv_iload_n hx hb dX0_effectOf_0 rfl (lv_at hl 2 rfl) ?_
  refine lv_bipush (v := (nI 8)) hx hb dX0_effectOf_1 (by decide) ?_
  refine lv_icmp_ge (tgt := 27) hx hb dX0_effectOf_3 (by decide) (fun c0 => ?_) (fun c0 => ?_)
  · replace hf := ite_t c0 hf
    refine lv_iload_n hx hb dX0_effectOf_27 rfl (lv_at hl 2 rfl) ?_
    refine lv_bipush (v := (nI 8)) hx hb dX0_effectOf_28 (by decide) ?_
    refine lv_isub hx hb dX0_effectOf_30 ?_
    refine lv_topi (fun y1 ex => ?_)
    replace hf := bnd_at ex hf
    clear ex
    refine lv_istore_n (lv' := [(3, .int y1), (0, .ref (bb E 1)), (1, .int x1), (2, .int x2)]) hx hb dX0_effectOf_31 rfl hl (by decide) rfl (fun ls hl => ?_)
    refine lv_aload_n hx hb dX0_effectOf_32 rfl (lv_at hl 1 rfl) ?_
    refine lv_iload_n hx hb dX0_effectOf_33 rfl (lv_at hl 0 rfl) ?_
    obtain ⟨r4, S2, h3, hf⟩ := cal_g hf
    refine go_q hH (run_V X hH (rest := []) (c_X0_macroOf N S y1 h3) gm_X0_44 (by decide) (e_1 E _) rfl rfl hl.1 (rmL_ok (by omega) (by decide)) (Nat.le_of_ble_eq_true rfl) rfl dX0_effectOf_34) (fun H locs hH => ?_)
    clear h3
    cases r4 with
    | none =>
      replace hf := opt_n hf
      refine lv_astoreN (lv' := [(4, .null), (3, .int y1), (0, .ref (bb E 1)), (1, .int x1), (2, .int x2)]) hx hb dX0_effectOf_37 hl (by decide) rfl (fun ls hl => ?_)
      refine lv_aloadN hx hb dX0_effectOf_39 (lv_at hl 0 rfl) ?_
      refine lv_ifnullN (tgt := 51) hx hb dX0_effectOf_41 (by decide) ?_
      refine lv_iload_n hx hb dX0_effectOf_51 rfl (lv_at hl 3 rfl) ?_
      exact r_iret X hH hf dX0_effectOf_52
    | some j5 =>
      replace hf := opt_s hf
      obtain ⟨hj5, hf⟩ := ite_g hf
      refine lv_astore (lv' := [(4, .ref (bb E (20 + j5))), (3, .int y1), (0, .ref (bb E 1)), (1, .int x1), (2, .int x2)]) hx hb dX0_effectOf_37 hl (by decide) rfl (fun ls hl => ?_)
      refine lv_aload hx hb dX0_effectOf_39 (lv_at hl 0 rfl) ?_
      refine lv_ifnull hx hb dX0_effectOf_41 ?_
      refine lv_iload_n hx hb dX0_effectOf_44 rfl (lv_at hl 3 rfl) ?_
      obtain ⟨r8, S6, h7, hf⟩ := cal_g hf
      refine go_i hH (run_S X hH (rest := []) (c_X1_isLine N S2 x1 h7) gm_X0_83 rfl hl.1 (rmL_ok (by omega) (by decide)) (Nat.le_of_ble_eq_true rfl) rfl dX0_effectOf_45) (fun H locs hH => ?_)
      clear h7
      refine lv_if_ne (tgt := 53) hx hb dX0_effectOf_48 (by decide) (fun c0 => ?_) (fun c0 => ?_)
      · replace hf := ite_f c0 hf
        refine lv_iload_n hx hb dX0_effectOf_53 rfl (lv_at hl 1 rfl) ?_
        refine lv_sipush (v := (nI 7737)) hx hb dX0_effectOf_54 (by decide) ?_
        refine lv_imul hx hb dX0_effectOf_57 ?_
        refine lv_iload_n hx hb dX0_effectOf_58 rfl (lv_at hl 3 rfl) ?_
        refine lv_iadd hx hb dX0_effectOf_59 ?_
        refine lv_topi (fun y9 ex => ?_)
        replace hf := bnd_at ex hf
        clear ex
        refine lv_istore (lv' := [(5, .int y9), (4, .ref (bb E (20 + j5))), (3, .int y1), (0, .ref (bb E 1)), (1, .int x1), (2, .int x2)]) hx hb dX0_effectOf_60 hl (by decide) rfl (fun ls hl => ?_)
        refine lv_aload_n hx hb dX0_effectOf_62 rfl (lv_at hl 3 rfl) ?_
        refine fg_X0_20 X hH dX0_effectOf_63 ?_
        refine lv_iload hx hb dX0_effectOf_66 (lv_at hl 0 rfl) ?_
        obtain ⟨g, hf⟩ := ite_g hf
        refine r_iald X hH (a_3 E) g dX0_effectOf_68 ?_
        refine lv_if_ne (tgt := 89) hx hb dX0_effectOf_69 (by decide) (fun c0 => ?_) (fun c0 => ?_)
        · replace hf := ite_f c0 hf
          exact w_X0_effectOf_89 X N fe hfe S6 y9 hf _ _ hH _ (lv_sub hl [3, 0] rfl)
        · replace hf := ite_t c0 hf
          refine lv_aload_n hx hb dX0_effectOf_72 rfl (lv_at hl 3 rfl) ?_
          refine fg_X0_20 X hH dX0_effectOf_73 ?_
          refine lv_iload hx hb dX0_effectOf_76 (lv_at hl 0 rfl) ?_
          refine lv_iconst (v := (nI 1)) hx hb dX0_effectOf_78 (by decide) ?_
          refine lv_aload_n hx hb dX0_effectOf_79 rfl (lv_at hl 3 rfl) ?_
          refine lv_iload_n hx hb dX0_effectOf_80 rfl (lv_at hl 4 rfl) ?_
          refine lv_aload hx hb dX0_effectOf_81 (lv_at hl 1 rfl) ?_
          refine lv_iload_n hx hb dX0_effectOf_83 rfl (lv_at hl 2 rfl) ?_
          obtain ⟨r12, S10, h11, hf⟩ := cal_g hf
          refine go_i hH (run_V X hH (rest := [.int (nI 1), .int y9, .ref (bb E 3)]) (c_X0_played N fe hfe S6 x1 j5 y1 hj5 h11) gm_X0_87 (by decide) (e_1 E _) rfl rfl hl.1 (rmL_ok (by omega) (by decide)) (Nat.le_of_ble_eq_true rfl) rfl dX0_effectOf_84) (fun H locs hH => ?_)
          clear h11
          refine lv_iadd hx hb dX0_effectOf_87 ?_
          obtain ⟨g, hf⟩ := ite_g hf
          refine r_iast X hH (a_3 E) g dX0_effectOf_88 (fun H locs hH => ?_)
          obtain ⟨S13, ex, hf⟩ := bnd_go hf
          replace hH := HH_eq ex hH
          clear ex
          exact w_X0_effectOf_89 X N fe hfe S13 y9 hf _ _ hH _ (lv_sub hl [3, 0] rfl)
      · replace hf := ite_t c0 hf
        refine lv_iload_n hx hb dX0_effectOf_51 rfl (lv_at hl 3 rfl) ?_
        exact r_iret X hH hf dX0_effectOf_52
  · replace hf := ite_f c0 hf
    refine lv_iload_n hx hb dX0_effectOf_6 rfl (lv_at hl 1 rfl) ?_
    refine lv_iload_n hx hb dX0_effectOf_7 rfl (lv_at hl 2 rfl) ?_
    obtain ⟨r16, S14, h15, hf⟩ := cal_g hf
    refine go_i hH (run_S X hH (rest := []) (c_X1_after N S x1 x2 h15) gm_X0_80 rfl hl.1 (rmL_ok (by omega) (by decide)) (Nat.le_of_ble_eq_true rfl) rfl dX0_effectOf_8) (fun H locs hH => ?_)
    clear h15
    refine lv_istore_n (lv' := [(3, .int r16), (0, .ref (bb E 1)), (1, .int x1), (2, .int x2)]) hx hb dX0_effectOf_11 rfl hl (by decide) rfl (fun ls hl => ?_)
    refine lv_iload_n hx hb dX0_effectOf_12 rfl (lv_at hl 0 rfl) ?_
    refine lv_iload_n hx hb dX0_effectOf_13 rfl (lv_at hl 2 rfl) ?_
    refine lv_icmp_ne (tgt := 25) hx hb dX0_effectOf_14 (by decide) (fun c0 => ?_) (fun c0 => ?_)
    · replace hf := ite_f c0 hf
      refine lv_iload_n hx hb dX0_effectOf_25 rfl (lv_at hl 0 rfl) ?_
      exact r_iret X hH hf dX0_effectOf_26
    · replace hf := ite_t c0 hf
      refine lv_sipush (v := (nI 8192)) hx hb dX0_effectOf_17 (by decide) ?_
      refine lv_iload_n hx hb dX0_effectOf_20 rfl (lv_at hl 2 rfl) ?_
      refine lv_ior hx hb dX0_effectOf_21 ?_
      refine lv_goto (tgt := 26) hx hb dX0_effectOf_22 (by decide) ?_
      exact r_iret X hH hf dX0_effectOf_26
theorem c_X0_effectOf {l : Launch} {E : Ev} (N : Nat) {kr : Nat} (fe : St → Int32 → Int32 → Option (Int32 × St)) (hfe : ∀ (S : St) (x1 : Int32) (x2 : Int32) (r : Int32) (S1 : St), fe S x1 x2 = some (r, S1) → Ct l yX0_effectOf (.code yX0_effectOf cX0_effectOf 6 (some .int)) kr E [.ref (bb E 1), .int x1, .int x2] S (QI E r S1)) (S : St) (x1 : Int32) (x2 : Int32) {r : Int32} {S1 : St} (hf : f_X0_effectOf N fe S x1 x2 = some (r, S1)) : Ct l yX0_effectOf (.code yX0_effectOf cX0_effectOf 6 (some .int)) (kr + 11) E [.ref (bb E 1), .int x1, .int x2] S (QI E r S1) := by
  refine Ct.of (by decide) (Nat.le_of_ble_eq_true rfl) (fun p e s m below meth c ls X hH hl => ?_)
  exact w_X0_effectOf_0 X N fe hfe S x1 x2 hf _ _ hH _ hl
theorem cg_X0_effectOf {l : Launch} {E : Ev} (d N : Nat) : ∀ (S : St) (x1 : Int32) (x2 : Int32) {r : Int32} {S1 : St}, g_X0_effectOf N d S x1 x2 = some (r, S1) → Ct l yX0_effectOf (.code yX0_effectOf cX0_effectOf 6 (some .int)) (11 * d) E [.ref (bb E 1), .int x1, .int x2] S (QI E r S1) := by
  induction d with
  | zero =>
    intro S x1 x2 r S1 hf
    cases hf
  | succ d ih =>
    intro S x1 x2 r S1 hf
    have h := c_X0_effectOf (l := l) (E := E) (kr := 11 * d) N (g_X0_effectOf N d) (fun S x1 x2 r S1 h => ih S x1 x2 h) S x1 x2 hf
    exact (show 11 * d + 11 = 11 * (d + 1) from by omega) ▸ h
set_option maxRecDepth 100000 in
set_option maxHeartbeats 4000000 in
theorem w_X0_keysThereAre_0 {p : Program} {l : Launch} {e : Env} {s : State} {m : MethodId} {args : Array Value} {below : List Frame} {meth : Method} {c : Code} {E : Ev} {r : Int32} {S1 : St} (X : GX p s m meth c args cX0_keysThereAre 1 (some .int) RX0 E) (N : Nat) : ∀ (S : St), f_X0_keysThereAre N S = some (r, S1) → ∀ (H : Heap) (locs : List Loc), HH E S s H locs → ∀ ls : Array Slot, lv_has ls 1 [(0, .ref (bb E 1))] → W p l e (rmL 1) s m args below meth c H locs 0 0 (MQ below (QI E r S1 s.heap.size) args s 0 0 (AA E s.heap.size)) (F0 m 0 ls []) := by
  have hx := X.1
  have hb := X.2.1
  intro S hf H locs hH ls hl
  rw [f_X0_keysThereAre] at hf
  refine lv_bipush (v := (nI 8)) hx hb dX0_keysThereAre_0 (by decide) ?_
  refine lv_aload_n hx hb dX0_keysThereAre_2 rfl (lv_at hl 0 rfl) ?_
  refine fg_X0_30 X hH dX0_keysThereAre_3 ?_
  refine lv_iadd hx hb dX0_keysThereAre_6 ?_
  exact r_iret X hH hf dX0_keysThereAre_7
theorem c_X0_keysThereAre {l : Launch} {E : Ev} (N : Nat) (S : St) {r : Int32} {S1 : St} (hf : f_X0_keysThereAre N S = some (r, S1)) : Ct l yX0_keysThereAre (.code yX0_keysThereAre cX0_keysThereAre 1 (some .int)) 1 E [.ref (bb E 1)] S (QI E r S1) := by
  refine Ct.of (by decide) (Nat.le_of_ble_eq_true rfl) (fun p e s m below meth c ls X hH hl => ?_)
  exact w_X0_keysThereAre_0 X N S hf _ _ hH _ hl
set_option maxRecDepth 100000 in
set_option maxHeartbeats 4000000 in
theorem w_X0_isKey_0 {p : Program} {l : Launch} {e : Env} {s : State} {m : MethodId} {args : Array Value} {below : List Frame} {meth : Method} {c : Code} {E : Ev} {r : Int32} {S1 : St} (X : GX p s m meth c args cX0_isKey 2 (some .boolean) RX0 E) (N : Nat) : ∀ (S : St) (x1 : Int32), f_X0_isKey N S x1 = some (r, S1) → ∀ (H : Heap) (locs : List Loc), HH E S s H locs → ∀ ls : Array Slot, lv_has ls 2 [(0, .ref (bb E 1)), (1, .int x1)] → W p l e (rmL 2) s m args below meth c H locs 0 0 (MQ below (QI E r S1 s.heap.size) args s 0 0 (AA E s.heap.size)) (F0 m 0 ls []) := by
  have hx := X.1
  have hb := X.2.1
  intro S x1 hf H locs hH ls hl
  rw [f_X0_isKey] at hf
  refine lv_iload_n hx hb dX0_isKey_0 rfl (lv_at hl 1 rfl) ?_
  refine lv_if_lt (tgt := 16) hx hb dX0_isKey_1 (by decide) (fun c0 => ?_) (fun c0 => ?_)
  · replace hf := ite_t c0 hf
    refine lv_iconst (v := (nI 0)) hx hb dX0_isKey_16 (by decide) ?_
    exact r_zret X hH (by decide) hf dX0_isKey_17
  · replace hf := ite_f c0 hf
    refine lv_iload_n hx hb dX0_isKey_4 rfl (lv_at hl 1 rfl) ?_
    refine lv_aload_n hx hb dX0_isKey_5 rfl (lv_at hl 0 rfl) ?_
    obtain ⟨r3, S1, h2, hf⟩ := cal_g hf
    refine go_i hH (run_V X hH (rest := [.int x1]) (c_X0_keysThereAre N S h2) gm_X0_40 (by decide) (e_1 E _) rfl rfl hl.1 (rmL_ok (by decide) (by decide)) (Nat.le_of_ble_eq_true rfl) rfl dX0_isKey_6) (fun H locs hH => ?_)
    clear h2
    refine lv_icmp_ge (tgt := 16) hx hb dX0_isKey_9 (by decide) (fun c0 => ?_) (fun c0 => ?_)
    · replace hf := ite_t c0 hf
      refine lv_iconst (v := (nI 0)) hx hb dX0_isKey_16 (by decide) ?_
      exact r_zret X hH (by decide) hf dX0_isKey_17
    · replace hf := ite_f c0 hf
      refine lv_iconst (v := (nI 1)) hx hb dX0_isKey_12 (by decide) ?_
      refine lv_goto (tgt := 17) hx hb dX0_isKey_13 (by decide) ?_
      exact r_zret X hH (by decide) hf dX0_isKey_17
theorem c_X0_isKey {l : Launch} {E : Ev} (N : Nat) (S : St) (x1 : Int32) {r : Int32} {S1 : St} (hf : f_X0_isKey N S x1 = some (r, S1)) : Ct l yX0_isKey (.code yX0_isKey cX0_isKey 2 (some .boolean)) 2 E [.ref (bb E 1), .int x1] S (QI E r S1) := by
  refine Ct.of (by decide) (Nat.le_of_ble_eq_true rfl) (fun p e s m below meth c ls X hH hl => ?_)
  exact w_X0_isKey_0 X N S x1 hf _ _ hH _ hl
set_option maxRecDepth 100000 in
set_option maxHeartbeats 4000000 in
theorem w_X0_lineAfter_0 {p : Program} {l : Launch} {e : Env} {s : State} {m : MethodId} {args : Array Value} {below : List Frame} {meth : Method} {c : Code} {E : Ev} {r : Int32} {S1 : St} (X : GX p s m meth c args cX0_lineAfter 3 (some .int) RX0 E) (N : Nat) : ∀ (S : St) (x1 : Int32) (x2 : Int32), f_X0_lineAfter N S x1 x2 = some (r, S1) → ∀ (H : Heap) (locs : List Loc), HH E S s H locs → ∀ ls : Array Slot, lv_has ls 3 [(0, .ref (bb E 1)), (1, .int x1), (2, .int x2)] → W p l e (rmL 56) s m args below meth c H locs 0 0 (MQ below (QI E r S1 s.heap.size) args s 0 0 (AA E s.heap.size)) (F0 m 0 ls []) := by
  have hx := X.1
  have hb := X.2.1
  intro S x1 x2 hf H locs hH ls hl
  rw [f_X0_lineAfter] at hf
  refine lv_aload_n hx hb dX0_lineAfter_0 rfl (lv_at hl 0 rfl) ?_
  refine lv_iload_n hx hb dX0_lineAfter_1 rfl (lv_at hl 1 rfl) ?_
  refine lv_iload_n hx hb dX0_lineAfter_2 rfl (lv_at hl 2 rfl) ?_
  obtain ⟨r3, S1, h2, hf⟩ := cal_g hf
  refine go_i hH (run_V X hH (rest := []) (cg_X0_effectOf 5 N S x1 x2 h2) gm_X0_73 (by decide) (e_1 E _) rfl rfl hl.1 (rmL_ok (by decide) (by decide)) (Nat.le_of_ble_eq_true rfl) rfl dX0_lineAfter_3) (fun H locs hH => ?_)
  clear h2
  obtain ⟨r6, S4, h5, hf⟩ := cal_g hf
  refine go_i hH (run_S X hH (rest := []) (c_X0_lineOf N S1 r3 h5) gm_X0_77 rfl hl.1 (rmL_ok (by decide) (by decide)) (Nat.le_of_ble_eq_true rfl) rfl dX0_lineAfter_6) (fun H locs hH => ?_)
  clear h5
  exact r_iret X hH hf dX0_lineAfter_9
theorem c_X0_lineAfter {l : Launch} {E : Ev} (N : Nat) (S : St) (x1 : Int32) (x2 : Int32) {r : Int32} {S1 : St} (hf : f_X0_lineAfter N S x1 x2 = some (r, S1)) : Ct l yX0_lineAfter (.code yX0_lineAfter cX0_lineAfter 3 (some .int)) 56 E [.ref (bb E 1), .int x1, .int x2] S (QI E r S1) := by
  refine Ct.of (by decide) (Nat.le_of_ble_eq_true rfl) (fun p e s m below meth c ls X hH hl => ?_)
  exact w_X0_lineAfter_0 X N S x1 x2 hf _ _ hH _ hl
set_option maxRecDepth 100000 in
set_option maxHeartbeats 4000000 in
theorem w_X0_pressesOf_17 {p : Program} {l : Launch} {e : Env} {s : State} {m : MethodId} {args : Array Value} {below : List Frame} {meth : Method} {c : Code} {E : Ev} {r : Int32} {S1 : St} (X : GX p s m meth c args cX0_pressesOf 6 (some .int) RX0 E) (N : Nat) {kr : Nat} (fe : St → Int32 → Option (Int32 × St)) (hfe : ∀ (S : St) (x1 : Int32) (r : Int32) (S1 : St), fe S x1 = some (r, S1) → Ct l yX0_pressesOf (.code yX0_pressesOf cX0_pressesOf 6 (some .int)) kr E [.ref (bb E 1), .int x1] S (QI E r S1)) : ∀ (n : Nat) (S : St) (x1 : Int32) (j2 : Nat) (x3 : Int32) (x4 : Int32) (hj2 : j2 < 6), f_X0_pressesOf_17 N fe n S x1 j2 x3 x4 = some (r, S1) → ∀ (H : Heap) (locs : List Loc), HH E S s H locs → ∀ ls : Array Slot, lv_has ls 6 [(0, .ref (bb E 1)), (1, .int x1), (2, .ref (bb E (20 + j2))), (3, .int x3), (4, .int x4)] → W p l e (rmL (kr + 11)) s m args below meth c H locs 0 0 (MQ below (QI E r S1 s.heap.size) args s 0 0 (AA E s.heap.size)) (F0 m 17 ls []) := by
  have hx := X.1
  have hb := X.2.1
  intro n
  induction n with
  | zero =>
    intro S x1 j2 x3 x4 hj2 hf
    cases hf
  | succ n ih =>
    intro S x1 j2 x3 x4 hj2 hf H locs hH ls hl
    rw [f_X0_pressesOf_17] at hf
    refine lv_iload hx hb dX0_pressesOf_17 (lv_at hl 4 rfl) ?_
    refine lv_aload_n hx hb dX0_pressesOf_19 rfl (lv_at hl 2 rfl) ?_
    refine fg_X0_60 X hH hj2 dX0_pressesOf_20 ?_
    refine lv_icmp_ge (tgt := 74) hx hb dX0_pressesOf_23 (by decide) (fun c0 => ?_) (fun c0 => ?_)
    · replace hf := ite_t c0 hf
      refine lv_iload_n hx hb dX0_pressesOf_74 rfl (lv_at hl 3 rfl) ?_
      refine lv_aload_n hx hb dX0_pressesOf_75 rfl (lv_at hl 2 rfl) ?_
      obtain ⟨r3, S1, h2, hf⟩ := cal_g hf
      refine go_i hH (run_V X hH (rest := [.int x3]) (c_X2_often N S j2 hj2 h2) gm_X0_70 (mk54 hj2) (e_mk E hj2 _) rfl rfl hl.1 (rmL_ok (by omega) (by decide)) (Nat.le_of_ble_eq_true rfl) rfl dX0_pressesOf_76) (fun H locs hH => ?_)
      clear h2
      refine lv_imul hx hb dX0_pressesOf_79 ?_
      exact r_iret X hH hf dX0_pressesOf_80
    · replace hf := ite_f c0 hf
      refine lv_aload_n hx hb dX0_pressesOf_26 rfl (lv_at hl 2 rfl) ?_
      refine lv_iload hx hb dX0_pressesOf_27 (lv_at hl 4 rfl) ?_
      obtain ⟨r6, S4, h5, hf⟩ := cal_g hf
      refine go_i hH (run_V X hH (rest := []) (c_X2_keyAt N S j2 x4 hj2 h5) gm_X0_63 (mk54 hj2) (e_mk E hj2 _) rfl rfl hl.1 (rmL_ok (by omega) (by decide)) (Nat.le_of_ble_eq_true rfl) rfl dX0_pressesOf_29) (fun H locs hH => ?_)
      clear h5
      refine lv_istore (lv' := [(5, .int r6), (0, .ref (bb E 1)), (1, .int x1), (2, .ref (bb E (20 + j2))), (3, .int x3), (4, .int x4)]) hx hb dX0_pressesOf_32 hl (by decide) rfl (fun ls hl => ?_)
      refine lv_iload hx hb dX0_pressesOf_34 (lv_at hl 0 rfl) ?_
      refine lv_bipush (v := (nI 8)) hx hb dX0_pressesOf_36 (by decide) ?_
      refine lv_icmp_ge (tgt := 47) hx hb dX0_pressesOf_38 (by decide) (fun c0 => ?_) (fun c0 => ?_)
      · replace hf := ite_t c0 hf
        refine lv_iload hx hb dX0_pressesOf_47 (lv_at hl 0 rfl) ?_
        refine lv_bipush (v := (nI 8)) hx hb dX0_pressesOf_49 (by decide) ?_
        refine lv_isub hx hb dX0_pressesOf_51 ?_
        refine lv_iload_n hx hb dX0_pressesOf_52 rfl (lv_at hl 2 rfl) ?_
        refine lv_icmp_ge (tgt := 68) hx hb dX0_pressesOf_53 (by decide) (fun c0 => ?_) (fun c0 => ?_)
        · replace hf := ite_t c0 hf
          obtain ⟨y7, ex, hf⟩ := bnd_go hf
          refine lv_iinc (v := y7) (lv' := [(4, .int y7), (5, .int r6), (0, .ref (bb E 1)), (1, .int x1), (2, .ref (bb E (20 + j2))), (3, .int x3)]) hx hb dX0_pressesOf_68 hl (k := 5) rfl (by rw [ex]; rfl) (by decide) rfl (fun ls hl => ?_)
          clear ex
          refine lv_goto (tgt := 17) hx hb dX0_pressesOf_71 (by decide) ?_
          exact ih S4 x1 j2 x3 y7 hj2 hf _ _ hH _ (lv_sub hl [2, 3, 4, 5, 0] rfl)
        · replace hf := ite_f c0 hf
          refine lv_iload_n hx hb dX0_pressesOf_56 rfl (lv_at hl 4 rfl) ?_
          refine lv_aload_n hx hb dX0_pressesOf_57 rfl (lv_at hl 1 rfl) ?_
          refine lv_iload hx hb dX0_pressesOf_58 (lv_at hl 0 rfl) ?_
          refine lv_bipush (v := (nI 8)) hx hb dX0_pressesOf_60 (by decide) ?_
          refine lv_isub hx hb dX0_pressesOf_62 ?_
          obtain ⟨r10, S8, h9, hf⟩ := cal_g hf
          refine go_i hH (run_V X hH (rest := [.int x3]) (hfe S4 (r6 - (nI 8)) _ _ h9) gm_X0_67 (by decide) (e_1 E _) rfl rfl hl.1 (rmL_ok (by omega) (by decide)) (Nat.le_of_ble_eq_true rfl) rfl dX0_pressesOf_63) (fun H locs hH => ?_)
          clear h9
          refine lv_iadd hx hb dX0_pressesOf_66 ?_
          refine lv_topi (fun y11 ex => ?_)
          replace hf := bnd_at ex hf
          clear ex
          refine lv_istore_n (lv' := [(3, .int y11), (5, .int r6), (0, .ref (bb E 1)), (1, .int x1), (2, .ref (bb E (20 + j2))), (4, .int x4)]) hx hb dX0_pressesOf_67 rfl hl (by decide) rfl (fun ls hl => ?_)
          obtain ⟨y12, ex, hf⟩ := bnd_go hf
          refine lv_iinc (v := y12) (lv' := [(4, .int y12), (3, .int y11), (5, .int r6), (0, .ref (bb E 1)), (1, .int x1), (2, .ref (bb E (20 + j2)))]) hx hb dX0_pressesOf_68 hl (k := 5) rfl (by rw [ex]; rfl) (by decide) rfl (fun ls hl => ?_)
          clear ex
          refine lv_goto (tgt := 17) hx hb dX0_pressesOf_71 (by decide) ?_
          exact ih S8 x1 j2 y11 y12 hj2 hf _ _ hH _ (lv_sub hl [3, 4, 5, 1, 0] rfl)
      · replace hf := ite_f c0 hf
        obtain ⟨y13, ex, hf⟩ := bnd_go hf
        refine lv_iinc (v := y13) (lv' := [(3, .int y13), (5, .int r6), (0, .ref (bb E 1)), (1, .int x1), (2, .ref (bb E (20 + j2))), (4, .int x4)]) hx hb dX0_pressesOf_41 hl (k := 4) rfl (by rw [ex]; rfl) (by decide) rfl (fun ls hl => ?_)
        clear ex
        refine lv_goto (tgt := 68) hx hb dX0_pressesOf_44 (by decide) ?_
        obtain ⟨y14, ex, hf⟩ := bnd_go hf
        refine lv_iinc (v := y14) (lv' := [(4, .int y14), (3, .int y13), (5, .int r6), (0, .ref (bb E 1)), (1, .int x1), (2, .ref (bb E (20 + j2)))]) hx hb dX0_pressesOf_68 hl (k := 5) rfl (by rw [ex]; rfl) (by decide) rfl (fun ls hl => ?_)
        clear ex
        refine lv_goto (tgt := 17) hx hb dX0_pressesOf_71 (by decide) ?_
        exact ih S4 x1 j2 y13 y14 hj2 hf _ _ hH _ (lv_sub hl [3, 4, 5, 1, 0] rfl)
set_option maxRecDepth 100000 in
set_option maxHeartbeats 4000000 in
theorem w_X0_pressesOf_0 {p : Program} {l : Launch} {e : Env} {s : State} {m : MethodId} {args : Array Value} {below : List Frame} {meth : Method} {c : Code} {E : Ev} {r : Int32} {S1 : St} (X : GX p s m meth c args cX0_pressesOf 6 (some .int) RX0 E) (N : Nat) {kr : Nat} (fe : St → Int32 → Option (Int32 × St)) (hfe : ∀ (S : St) (x1 : Int32) (r : Int32) (S1 : St), fe S x1 = some (r, S1) → Ct l yX0_pressesOf (.code yX0_pressesOf cX0_pressesOf 6 (some .int)) kr E [.ref (bb E 1), .int x1] S (QI E r S1)) : ∀ (S : St) (x1 : Int32), f_X0_pressesOf N fe S x1 = some (r, S1) → ∀ (H : Heap) (locs : List Loc), HH E S s H locs → ∀ ls : Array Slot, lv_has ls 6 [(0, .ref (bb E 1)), (1, .int x1)] → W p l e (rmL (kr + 11)) s m args below meth c H locs 0 0 (MQ below (QI E r S1 s.heap.size) args s 0 0 (AA E s.heap.size)) (F0 m 0 ls []) := by
  have hx := X.1
  have hb := X.2.1
  intro S x1 hf H locs hH ls hl
  rw [f_X0_pressesOf] at hf
  refine lv_aload_n hx hb dX0_pressesOf_0 rfl (lv_at hl 0 rfl) ?_
  refine lv_iload_n hx hb dX0_pressesOf_1 rfl (lv_at hl 1 rfl) ?_
  obtain ⟨r3, S1, h2, hf⟩ := cal_g hf
  refine go_q hH (run_V X hH (rest := []) (c_X0_macroOf N S x1 h2) gm_X0_44 (by decide) (e_1 E _) rfl rfl hl.1 (rmL_ok (by omega) (by decide)) (Nat.le_of_ble_eq_true rfl) rfl dX0_pressesOf_2) (fun H locs hH => ?_)
  clear h2
  cases r3 with
  | none =>
    replace hf := opt_n hf
    refine lv_astore_nN (lv' := [(2, .null), (0, .ref (bb E 1)), (1, .int x1)]) hx hb dX0_pressesOf_5 rfl hl (by decide) rfl (fun ls hl => ?_)
    refine lv_aload_nN hx hb dX0_pressesOf_6 rfl (lv_at hl 0 rfl) ?_
    refine lv_ifnonnullN hx hb dX0_pressesOf_7 ?_
    refine lv_iconst (v := (nI 0)) hx hb dX0_pressesOf_10 (by decide) ?_
    exact r_iret X hH hf dX0_pressesOf_11
  | some j4 =>
    replace hf := opt_s hf
    obtain ⟨hj4, hf⟩ := ite_g hf
    refine lv_astore_n (lv' := [(2, .ref (bb E (20 + j4))), (0, .ref (bb E 1)), (1, .int x1)]) hx hb dX0_pressesOf_5 rfl hl (by decide) rfl (fun ls hl => ?_)
    refine lv_aload_n hx hb dX0_pressesOf_6 rfl (lv_at hl 0 rfl) ?_
    refine lv_ifnonnull (tgt := 12) hx hb dX0_pressesOf_7 (by decide) ?_
    refine lv_iconst (v := (nI 0)) hx hb dX0_pressesOf_12 (by decide) ?_
    refine lv_topi (fun y5 ex => ?_)
    replace hf := bnd_at ex hf
    clear ex
    refine lv_istore_n (lv' := [(3, .int y5), (2, .ref (bb E (20 + j4))), (0, .ref (bb E 1)), (1, .int x1)]) hx hb dX0_pressesOf_13 rfl hl (by decide) rfl (fun ls hl => ?_)
    refine lv_iconst (v := (nI 0)) hx hb dX0_pressesOf_14 (by decide) ?_
    refine lv_topi (fun y6 ex => ?_)
    replace hf := bnd_at ex hf
    clear ex
    refine lv_istore (lv' := [(4, .int y6), (3, .int y5), (2, .ref (bb E (20 + j4))), (0, .ref (bb E 1)), (1, .int x1)]) hx hb dX0_pressesOf_15 hl (by decide) rfl (fun ls hl => ?_)
    exact w_X0_pressesOf_17 X N fe hfe N S1 x1 j4 y5 y6 hj4 hf _ _ hH _ (lv_sub hl [3, 4, 2, 1, 0] rfl)
theorem c_X0_pressesOf {l : Launch} {E : Ev} (N : Nat) {kr : Nat} (fe : St → Int32 → Option (Int32 × St)) (hfe : ∀ (S : St) (x1 : Int32) (r : Int32) (S1 : St), fe S x1 = some (r, S1) → Ct l yX0_pressesOf (.code yX0_pressesOf cX0_pressesOf 6 (some .int)) kr E [.ref (bb E 1), .int x1] S (QI E r S1)) (S : St) (x1 : Int32) {r : Int32} {S1 : St} (hf : f_X0_pressesOf N fe S x1 = some (r, S1)) : Ct l yX0_pressesOf (.code yX0_pressesOf cX0_pressesOf 6 (some .int)) (kr + 11) E [.ref (bb E 1), .int x1] S (QI E r S1) := by
  refine Ct.of (by decide) (Nat.le_of_ble_eq_true rfl) (fun p e s m below meth c ls X hH hl => ?_)
  exact w_X0_pressesOf_0 X N fe hfe S x1 hf _ _ hH _ hl
theorem cg_X0_pressesOf {l : Launch} {E : Ev} (d N : Nat) : ∀ (S : St) (x1 : Int32) {r : Int32} {S1 : St}, g_X0_pressesOf N d S x1 = some (r, S1) → Ct l yX0_pressesOf (.code yX0_pressesOf cX0_pressesOf 6 (some .int)) (11 * d) E [.ref (bb E 1), .int x1] S (QI E r S1) := by
  induction d with
  | zero =>
    intro S x1 r S1 hf
    cases hf
  | succ d ih =>
    intro S x1 r S1 hf
    have h := c_X0_pressesOf (l := l) (E := E) (kr := 11 * d) N (g_X0_pressesOf N d) (fun S x1 r S1 h => ih S x1 h) S x1 hf
    exact (show 11 * d + 11 = 11 * (d + 1) from by omega) ▸ h
set_option maxRecDepth 100000 in
set_option maxHeartbeats 4000000 in
theorem w_X3_keyOf_95 {p : Program} {l : Launch} {e : Env} {s : State} {m : MethodId} {args : Array Value} {below : List Frame} {meth : Method} {c : Code} {E : Ev} {r : Int32} {S1 : St} (X : GX p s m meth c args cX3_keyOf 3 (some .int) RX3 E) (N : Nat) : ∀ (S : St) (x1 : Int32) (xs0 : Int32), f_X3_keyOf_95 N S x1 xs0 = some (r, S1) → ∀ (H : Heap) (locs : List Loc), HH E S s H locs → ∀ ls : Array Slot, lv_has ls 3 [(1, .int x1)] → W p l e (rmL 1) s m args below meth c H locs 0 0 (MQ below (QI E r S1 s.heap.size) args s 0 0 (AA E s.heap.size)) (F0 m 95 ls [.int xs0]) := by
  have hx := X.1
  have hb := X.2.1
  intro S x1 xs0 hf H locs hH ls hl
  rw [f_X3_keyOf_95] at hf
  refine lv_istore_n (lv' := [(2, .int xs0), (1, .int x1)]) hx hb dX3_keyOf_95 rfl hl (by decide) rfl (fun ls hl => ?_)
  refine lv_iload_n hx hb dX3_keyOf_96 rfl (lv_at hl 0 rfl) ?_
  refine lv_if_eq (tgt := 110) hx hb dX3_keyOf_97 (by decide) (fun c0 => ?_) (fun c0 => ?_)
  · replace hf := ite_t c0 hf
    refine lv_bipush (v := (-9 : Int32)) hx hb dX3_keyOf_110 (by decide) ?_
    exact r_iret X hH hf dX3_keyOf_112
  · replace hf := ite_f c0 hf
    refine lv_bipush (v := (nI 8)) hx hb dX3_keyOf_100 (by decide) ?_
    refine lv_iload_n hx hb dX3_keyOf_102 rfl (lv_at hl 1 rfl) ?_
    refine lv_iadd hx hb dX3_keyOf_103 ?_
    refine lv_bipush (v := (nI 48)) hx hb dX3_keyOf_104 (by decide) ?_
    refine lv_isub hx hb dX3_keyOf_106 ?_
    refine lv_goto (tgt := 112) hx hb dX3_keyOf_107 (by decide) ?_
    exact r_iret X hH hf dX3_keyOf_112
set_option maxRecDepth 100000 in
set_option maxHeartbeats 4000000 in
theorem w_X3_keyOf_71 {p : Program} {l : Launch} {e : Env} {s : State} {m : MethodId} {args : Array Value} {below : List Frame} {meth : Method} {c : Code} {E : Ev} {r : Int32} {S1 : St} (X : GX p s m meth c args cX3_keyOf 3 (some .int) RX3 E) (N : Nat) : ∀ (S : St) (x1 : Int32), f_X3_keyOf_71 N S x1 = some (r, S1) → ∀ (H : Heap) (locs : List Loc), HH E S s H locs → ∀ ls : Array Slot, lv_has ls 3 [(0, .ref (bb E 4)), (1, .int x1)] → W p l e (rmL 1) s m args below meth c H locs 0 0 (MQ below (QI E r S1 s.heap.size) args s 0 0 (AA E s.heap.size)) (F0 m 71 ls []) := by
  have hx := X.1
  have hb := X.2.1
  intro S x1 hf H locs hH ls hl
  rw [f_X3_keyOf_71] at hf
  refine lv_iload_n hx hb dX3_keyOf_71 rfl (lv_at hl 1 rfl) ?_
  refine lv_bipush (v := (nI 48)) hx hb dX3_keyOf_72 (by decide) ?_
  refine lv_icmp_lt (tgt := 94) hx hb dX3_keyOf_74 (by decide) (fun c0 => ?_) (fun c0 => ?_)
  · replace hf := ite_t c0 hf
    refine lv_iconst (v := (nI 0)) hx hb dX3_keyOf_94 (by decide) ?_
    exact w_X3_keyOf_95 X N S x1 (nI 0) hf _ _ hH _ (lv_sub hl [1] rfl)
  · replace hf := ite_f c0 hf
    refine lv_iload_n hx hb dX3_keyOf_77 rfl (lv_at hl 1 rfl) ?_
    refine lv_bipush (v := (nI 48)) hx hb dX3_keyOf_78 (by decide) ?_
    refine lv_aload_n hx hb dX3_keyOf_80 rfl (lv_at hl 0 rfl) ?_
    refine fg_X3_26 X hH dX3_keyOf_81 ?_
    refine lv_iadd hx hb dX3_keyOf_84 ?_
    refine lv_iconst (v := (nI 1)) hx hb dX3_keyOf_85 (by decide) ?_
    refine lv_isub hx hb dX3_keyOf_86 ?_
    refine lv_icmp_ge (tgt := 94) hx hb dX3_keyOf_87 (by decide) (fun c0 => ?_) (fun c0 => ?_)
    · replace hf := ite_t c0 hf
      refine lv_iconst (v := (nI 0)) hx hb dX3_keyOf_94 (by decide) ?_
      exact w_X3_keyOf_95 X N S x1 (nI 0) hf _ _ hH _ (lv_sub hl [1] rfl)
    · replace hf := ite_f c0 hf
      refine lv_iconst (v := (nI 1)) hx hb dX3_keyOf_90 (by decide) ?_
      refine lv_goto (tgt := 95) hx hb dX3_keyOf_91 (by decide) ?_
      exact w_X3_keyOf_95 X N S x1 (nI 1) hf _ _ hH _ (lv_sub hl [1] rfl)
set_option maxRecDepth 100000 in
set_option maxHeartbeats 4000000 in
theorem w_X3_keyOf_0 {p : Program} {l : Launch} {e : Env} {s : State} {m : MethodId} {args : Array Value} {below : List Frame} {meth : Method} {c : Code} {E : Ev} {r : Int32} {S1 : St} (X : GX p s m meth c args cX3_keyOf 3 (some .int) RX3 E) (N : Nat) : ∀ (S : St) (x1 : Int32), f_X3_keyOf N S x1 = some (r, S1) → ∀ (H : Heap) (locs : List Loc), HH E S s H locs → ∀ ls : Array Slot, lv_has ls 3 [(0, .ref (bb E 4)), (1, .int x1)] → W p l e (rmL 1) s m args below meth c H locs 0 0 (MQ below (QI E r S1 s.heap.size) args s 0 0 (AA E s.heap.size)) (F0 m 0 ls []) := by
  have hx := X.1
  have hb := X.2.1
  intro S x1 hf H locs hH ls hl
  rw [f_X3_keyOf] at hf
  refine lv_iload_n hx hb dX3_keyOf_0 rfl (lv_at hl 1 rfl) ?_
  refine lv_topi (fun y1 ex => ?_)
  replace hf := bnd_at ex hf
  clear ex
  by_cases c0 : y1 = (nI 60)
  · replace hf := ite_t c0 hf
    subst c0
    refine lv_lookup (tgt := 44) hx hb dX3_keyOf_1 (by decide) rfl (by decide) ?_
    refine lv_iconst (v := (nI 4)) hx hb dX3_keyOf_44 (by decide) ?_
    exact r_iret X hH hf dX3_keyOf_45
  · replace hf := ite_f c0 hf
    by_cases c1 : y1 = (nI 62)
    · replace hf := ite_t c1 hf
      subst c1
      refine lv_lookup (tgt := 46) hx hb dX3_keyOf_1 (by decide) rfl (by decide) ?_
      refine lv_iconst (v := (nI 5)) hx hb dX3_keyOf_46 (by decide) ?_
      exact r_iret X hH hf dX3_keyOf_47
    · replace hf := ite_f c1 hf
      by_cases c2 : y1 = (nI 104)
      · replace hf := ite_t c2 hf
        subst c2
        refine lv_lookup (tgt := 51) hx hb dX3_keyOf_1 (by decide) rfl (by decide) ?_
        refine lv_bipush (v := (nI 7)) hx hb dX3_keyOf_51 (by decide) ?_
        exact r_iret X hH hf dX3_keyOf_53
      · replace hf := ite_f c2 hf
        by_cases c3 : y1 = (nI 120)
        · replace hf := ite_t c3 hf
          subst c3
          refine lv_lookup (tgt := 48) hx hb dX3_keyOf_1 (by decide) rfl (by decide) ?_
          refine lv_bipush (v := (nI 6)) hx hb dX3_keyOf_48 (by decide) ?_
          exact r_iret X hH hf dX3_keyOf_50
        · replace hf := ite_f c3 hf
          refine lv_lookup (off := 53) (tgt := 54) hx hb dX3_keyOf_1 (by decide) ((lv_osw (a := 60) (o := 43) (d := 53) (r := [(62, 45), (104, 50), (120, 47)]) c0 rfl).trans ((lv_osw (a := 62) (o := 45) (d := 53) (r := [(104, 50), (120, 47)]) c1 rfl).trans ((lv_osw (a := 104) (o := 50) (d := 53) (r := [(120, 47)]) c2 rfl).trans ((lv_osw (a := 120) (o := 47) (d := 53) (r := []) c3 rfl).trans rfl)))) (by decide) ?_
          refine lv_iload_n hx hb dX3_keyOf_54 rfl (lv_at hl 1 rfl) ?_
          refine lv_bipush (v := (nI 97)) hx hb dX3_keyOf_55 (by decide) ?_
          refine lv_icmp_lt (tgt := 71) hx hb dX3_keyOf_57 (by decide) (fun c0 => ?_) (fun c0 => ?_)
          · replace hf := ite_t c0 hf
            exact w_X3_keyOf_71 X N S x1 hf _ _ hH _ (lv_sub hl [0, 1] rfl)
          · replace hf := ite_f c0 hf
            refine lv_iload_n hx hb dX3_keyOf_60 rfl (lv_at hl 1 rfl) ?_
            refine lv_bipush (v := (nI 101)) hx hb dX3_keyOf_61 (by decide) ?_
            refine lv_icmp_ge (tgt := 71) hx hb dX3_keyOf_63 (by decide) (fun c0 => ?_) (fun c0 => ?_)
            · replace hf := ite_t c0 hf
              exact w_X3_keyOf_71 X N S x1 hf _ _ hH _ (lv_sub hl [0, 1] rfl)
            · replace hf := ite_f c0 hf
              refine lv_iload_n hx hb dX3_keyOf_66 rfl (lv_at hl 1 rfl) ?_
              refine lv_bipush (v := (nI 97)) hx hb dX3_keyOf_67 (by decide) ?_
              refine lv_isub hx hb dX3_keyOf_69 ?_
              exact r_iret X hH hf dX3_keyOf_70
theorem c_X3_keyOf {l : Launch} {E : Ev} (N : Nat) (S : St) (x1 : Int32) {r : Int32} {S1 : St} (hf : f_X3_keyOf N S x1 = some (r, S1)) : Ct l yX3_keyOf (.code yX3_keyOf cX3_keyOf 3 (some .int)) 1 E [.ref (bb E 4), .int x1] S (QI E r S1) := by
  refine Ct.of (by decide) (Nat.le_of_ble_eq_true rfl) (fun p e s m below meth c ls X hH hl => ?_)
  exact w_X3_keyOf_0 X N S x1 hf _ _ hH _ hl
set_option maxRecDepth 100000 in
set_option maxHeartbeats 4000000 in
theorem w_X3_addsKey_0 {p : Program} {l : Launch} {e : Env} {s : State} {m : MethodId} {args : Array Value} {below : List Frame} {meth : Method} {c : Code} {E : Ev} {r : Int32} {S1 : St} (X : GX p s m meth c args cX3_addsKey 3 (some .boolean) RX3 E) (N : Nat) : ∀ (S : St) (x1 : Int32), f_X3_addsKey N S x1 = some (r, S1) → ∀ (H : Heap) (locs : List Loc), HH E S s H locs → ∀ ls : Array Slot, lv_has ls 3 [(0, .ref (bb E 4)), (1, .int x1)] → W p l e (rmL 2) s m args below meth c H locs 0 0 (MQ below (QI E r S1 s.heap.size) args s 0 0 (AA E s.heap.size)) (F0 m 0 ls []) := by
  have hx := X.1
  have hb := X.2.1
  intro S x1 hf H locs hH ls hl
  rw [f_X3_addsKey] at hf
  refine lv_aload_n hx hb dX3_addsKey_0 rfl (lv_at hl 0 rfl) ?_
  refine lv_iload_n hx hb dX3_addsKey_1 rfl (lv_at hl 1 rfl) ?_
  obtain ⟨r3, S1, h2, hf⟩ := cal_g hf
  refine go_i hH (run_V X hH (rest := []) (c_X3_keyOf N S x1 h2) gm_X3_67 (by decide) (e_4 E _) rfl rfl hl.1 (rmL_ok (by decide) (by decide)) (Nat.le_of_ble_eq_true rfl) rfl dX3_addsKey_2) (fun H locs hH => ?_)
  clear h2
  refine lv_istore_n (lv' := [(2, .int r3), (0, .ref (bb E 4)), (1, .int x1)]) hx hb dX3_addsKey_5 rfl hl (by decide) rfl (fun ls hl => ?_)
  refine lv_iload_n hx hb dX3_addsKey_6 rfl (lv_at hl 0 rfl) ?_
  refine lv_bipush (v := (-9 : Int32)) hx hb dX3_addsKey_7 (by decide) ?_
  refine lv_icmp_eq (tgt := 23) hx hb dX3_addsKey_9 (by decide) (fun c0 => ?_) (fun c0 => ?_)
  · replace hf := ite_t c0 hf
    refine lv_iconst (v := (nI 0)) hx hb dX3_addsKey_23 (by decide) ?_
    exact r_zret X hH (by decide) hf dX3_addsKey_24
  · replace hf := ite_f c0 hf
    refine lv_aload_n hx hb dX3_addsKey_12 rfl (lv_at hl 1 rfl) ?_
    obtain ⟨g4, hf⟩ := ite_g hf
    refine fg_X3_18 X hH dX3_addsKey_13 ?_
    refine fg_X3_58 X hH (l3 g4) dX3_addsKey_16 ?_
    refine lv_iconst (v := (nI 4)) hx hb dX3_addsKey_19 (by decide) ?_
    refine lv_icmp_lt (tgt := 25) hx hb dX3_addsKey_20 (by decide) (fun c0 => ?_) (fun c0 => ?_)
    · replace hf := ite_t c0 hf
      refine lv_aload_n hx hb dX3_addsKey_25 rfl (lv_at hl 1 rfl) ?_
      obtain ⟨g5, hf⟩ := ite_g hf
      refine fg_X3_18 X hH dX3_addsKey_26 ?_
      refine fg_X3_71 X hH (l3 g5) dX3_addsKey_29 ?_
      refine lv_aload_n hx hb dX3_addsKey_32 rfl (lv_at hl 1 rfl) ?_
      obtain ⟨g6, hf⟩ := ite_g hf
      refine fg_X3_18 X hH dX3_addsKey_33 ?_
      refine fg_X3_58 X hH (l3 g6) dX3_addsKey_36 ?_
      refine lv_iload_n hx hb dX3_addsKey_39 rfl (lv_at hl 0 rfl) ?_
      obtain ⟨g, hf⟩ := ite_g hf
      refine r_iast X hH (a_mk E (l3 g5)) g dX3_addsKey_40 (fun H locs hH => ?_)
      obtain ⟨S7, ex, hf⟩ := bnd_go hf
      replace hH := HH_eq ex hH
      clear ex
      refine lv_aload_n hx hb dX3_addsKey_41 rfl (lv_at hl 1 rfl) ?_
      obtain ⟨g8, hf⟩ := ite_g hf
      refine fg_X3_18 X hH dX3_addsKey_42 ?_
      refine lv_dup hx hb dX3_addsKey_45 rfl ?_
      refine fg_X3_58 X hH (l3 g8) dX3_addsKey_46 ?_
      refine lv_iconst (v := (nI 1)) hx hb dX3_addsKey_49 (by decide) ?_
      refine lv_iadd hx hb dX3_addsKey_50 ?_
      refine fp_X3_58 X hH (l3 g8) dX3_addsKey_51 (fun H locs hH => ?_)
      obtain ⟨S9, ex, hf⟩ := bnd_go hf
      replace hH := HH_eq ex hH
      clear ex
      refine lv_iconst (v := (nI 1)) hx hb dX3_addsKey_54 (by decide) ?_
      exact r_zret X hH (by decide) hf dX3_addsKey_55
    · replace hf := ite_f c0 hf
      refine lv_iconst (v := (nI 0)) hx hb dX3_addsKey_23 (by decide) ?_
      exact r_zret X hH (by decide) hf dX3_addsKey_24
theorem c_X3_addsKey {l : Launch} {E : Ev} (N : Nat) (S : St) (x1 : Int32) {r : Int32} {S1 : St} (hf : f_X3_addsKey N S x1 = some (r, S1)) : Ct l yX3_addsKey (.code yX3_addsKey cX3_addsKey 3 (some .boolean)) 2 E [.ref (bb E 4), .int x1] S (QI E r S1) := by
  refine Ct.of (by decide) (Nat.le_of_ble_eq_true rfl) (fun p e s m below meth c ls X hH hl => ?_)
  exact w_X3_addsKey_0 X N S x1 hf _ _ hH _ hl
set_option maxRecDepth 100000 in
set_option maxHeartbeats 4000000 in
theorem w_X3_begins_0 {p : Program} {l : Launch} {e : Env} {s : State} {m : MethodId} {args : Array Value} {below : List Frame} {meth : Method} {c : Code} {E : Ev} {r : Int32} {S1 : St} (X : GX p s m meth c args cX3_begins 2 (some .boolean) RX3 E) (N : Nat) : ∀ (S : St) (x1 : Int32), f_X3_begins N S x1 = some (r, S1) → ∀ (H : Heap) (locs : List Loc), HH E S s H locs → ∀ ls : Array Slot, lv_has ls 2 [(0, .ref (bb E 4)), (1, .int x1)] → W p l e (rmL 1) s m args below meth c H locs 0 0 (MQ below (QI E r S1 s.heap.size) args s 0 0 (AA E s.heap.size)) (F0 m 0 ls []) := by
  have hx := X.1
  have hb := X.2.1
  intro S x1 hf H locs hH ls hl
  rw [f_X3_begins] at hf
  refine lv_aload_n hx hb dX3_begins_0 rfl (lv_at hl 0 rfl) ?_
  refine lv_iconst (v := (nI 1)) hx hb dX3_begins_1 (by decide) ?_
  refine fp_X3_22 X hH dX3_begins_2 (fun H locs hH => ?_)
  obtain ⟨S1, ex, hf⟩ := bnd_go hf
  replace hH := HH_eq ex hH
  clear ex
  refine lv_iload_n hx hb dX3_begins_5 rfl (lv_at hl 1 rfl) ?_
  refine lv_bipush (v := (nI 107)) hx hb dX3_begins_6 (by decide) ?_
  refine lv_icmp_ne (tgt := 15) hx hb dX3_begins_8 (by decide) (fun c0 => ?_) (fun c0 => ?_)
  · replace hf := ite_f c0 hf
    refine lv_iconst (v := (nI 0)) hx hb dX3_begins_15 (by decide) ?_
    exact r_zret X hH (by decide) hf dX3_begins_16
  · replace hf := ite_t c0 hf
    refine lv_iconst (v := (nI 1)) hx hb dX3_begins_11 (by decide) ?_
    refine lv_goto (tgt := 16) hx hb dX3_begins_12 (by decide) ?_
    exact r_zret X hH (by decide) hf dX3_begins_16
theorem c_X3_begins {l : Launch} {E : Ev} (N : Nat) (S : St) (x1 : Int32) {r : Int32} {S1 : St} (hf : f_X3_begins N S x1 = some (r, S1)) : Ct l yX3_begins (.code yX3_begins cX3_begins 2 (some .boolean)) 1 E [.ref (bb E 4), .int x1] S (QI E r S1) := by
  refine Ct.of (by decide) (Nat.le_of_ble_eq_true rfl) (fun p e s m below meth c ls X hH hl => ?_)
  exact w_X3_begins_0 X N S x1 hf _ _ hH _ hl
set_option maxRecDepth 100000 in
set_option maxHeartbeats 4000000 in
theorem w_X3_hasKeys_0 {p : Program} {l : Launch} {e : Env} {s : State} {m : MethodId} {args : Array Value} {below : List Frame} {meth : Method} {c : Code} {E : Ev} {r : Int32} {S1 : St} (X : GX p s m meth c args cX3_hasKeys 1 (some .boolean) RX3 E) (N : Nat) : ∀ (S : St), f_X3_hasKeys N S = some (r, S1) → ∀ (H : Heap) (locs : List Loc), HH E S s H locs → ∀ ls : Array Slot, lv_has ls 1 [(0, .ref (bb E 4))] → W p l e (rmL 1) s m args below meth c H locs 0 0 (MQ below (QI E r S1 s.heap.size) args s 0 0 (AA E s.heap.size)) (F0 m 0 ls []) := by
  have hx := X.1
  have hb := X.2.1
  intro S hf H locs hH ls hl
  rw [f_X3_hasKeys] at hf
  refine lv_aload_n hx hb dX3_hasKeys_0 rfl (lv_at hl 0 rfl) ?_
  refine fg_X3_22 X hH dX3_hasKeys_1 ?_
  refine lv_iconst (v := (nI 4)) hx hb dX3_hasKeys_4 (by decide) ?_
  refine lv_icmp_ne (tgt := 22) hx hb dX3_hasKeys_5 (by decide) (fun c0 => ?_) (fun c0 => ?_)
  · replace hf := ite_f c0 hf
    refine lv_iconst (v := (nI 0)) hx hb dX3_hasKeys_22 (by decide) ?_
    exact r_zret X hH (by decide) hf dX3_hasKeys_23
  · replace hf := ite_t c0 hf
    refine lv_aload_n hx hb dX3_hasKeys_8 rfl (lv_at hl 0 rfl) ?_
    obtain ⟨g1, hf⟩ := ite_g hf
    refine fg_X3_18 X hH dX3_hasKeys_9 ?_
    refine fg_X3_58 X hH (l3 g1) dX3_hasKeys_12 ?_
    refine lv_if_le (tgt := 22) hx hb dX3_hasKeys_15 (by decide) (fun c0 => ?_) (fun c0 => ?_)
    · replace hf := ite_t c0 hf
      refine lv_iconst (v := (nI 0)) hx hb dX3_hasKeys_22 (by decide) ?_
      exact r_zret X hH (by decide) hf dX3_hasKeys_23
    · replace hf := ite_f c0 hf
      refine lv_iconst (v := (nI 1)) hx hb dX3_hasKeys_18 (by decide) ?_
      refine lv_goto (tgt := 23) hx hb dX3_hasKeys_19 (by decide) ?_
      exact r_zret X hH (by decide) hf dX3_hasKeys_23
theorem c_X3_hasKeys {l : Launch} {E : Ev} (N : Nat) (S : St) {r : Int32} {S1 : St} (hf : f_X3_hasKeys N S = some (r, S1)) : Ct l yX3_hasKeys (.code yX3_hasKeys cX3_hasKeys 1 (some .boolean)) 1 E [.ref (bb E 4)] S (QI E r S1) := by
  refine Ct.of (by decide) (Nat.le_of_ble_eq_true rfl) (fun p e s m below meth c ls X hH hl => ?_)
  exact w_X3_hasKeys_0 X N S hf _ _ hH _ hl
set_option maxRecDepth 100000 in
set_option maxHeartbeats 4000000 in
theorem w_X3_marks_0 {p : Program} {l : Launch} {e : Env} {s : State} {m : MethodId} {args : Array Value} {below : List Frame} {meth : Method} {c : Code} {E : Ev} {r : Int32} {S1 : St} (X : GX p s m meth c args cX3_marks 2 (some .boolean) RX3 E) (N : Nat) : ∀ (S : St) (x1 : Int32), f_X3_marks N S x1 = some (r, S1) → ∀ (H : Heap) (locs : List Loc), HH E S s H locs → ∀ ls : Array Slot, lv_has ls 2 [(0, .ref (bb E 4)), (1, .int x1)] → W p l e (rmL 1) s m args below meth c H locs 0 0 (MQ below (QI E r S1 s.heap.size) args s 0 0 (AA E s.heap.size)) (F0 m 0 ls []) := by
  have hx := X.1
  have hb := X.2.1
  intro S x1 hf H locs hH ls hl
  rw [f_X3_marks] at hf
  refine lv_iload_n hx hb dX3_marks_0 rfl (lv_at hl 1 rfl) ?_
  refine lv_bipush (v := (nI 59)) hx hb dX3_marks_1 (by decide) ?_
  refine lv_icmp_ne (tgt := 14) hx hb dX3_marks_3 (by decide) (fun c0 => ?_) (fun c0 => ?_)
  · replace hf := ite_f c0 hf
    refine lv_iconst (v := (nI 0)) hx hb dX3_marks_14 (by decide) ?_
    exact r_zret X hH (by decide) hf dX3_marks_15
  · replace hf := ite_t c0 hf
    refine lv_aload_n hx hb dX3_marks_6 rfl (lv_at hl 0 rfl) ?_
    refine fg_X3_26 X hH dX3_marks_7 ?_
    refine lv_iconst (v := (nI 3)) hx hb dX3_marks_10 (by decide) ?_
    refine lv_icmp_lt (tgt := 16) hx hb dX3_marks_11 (by decide) (fun c0 => ?_) (fun c0 => ?_)
    · replace hf := ite_t c0 hf
      refine lv_aload_n hx hb dX3_marks_16 rfl (lv_at hl 0 rfl) ?_
      refine lv_aload_n hx hb dX3_marks_17 rfl (lv_at hl 0 rfl) ?_
      refine fg_X3_12 X hH dX3_marks_18 ?_
      refine lv_aload_n hx hb dX3_marks_21 rfl (lv_at hl 0 rfl) ?_
      refine fg_X3_26 X hH dX3_marks_22 ?_
      obtain ⟨g1, hf⟩ := ite_g hf
      refine r_aald X hH (t0 := 1) (by decide) (e_5 E _) rfl g1 rfl dX3_marks_25 ?_
      refine fp_X3_18 X hH dX3_marks_26 (fun H locs hH => ?_)
      obtain ⟨S2, ex, hf⟩ := bnd_go hf
      replace hH := HH_eq ex hH
      clear ex
      refine lv_aload_n hx hb dX3_marks_29 rfl (lv_at hl 0 rfl) ?_
      obtain ⟨g3, hf⟩ := ite_g hf
      refine fg_X3_18 X hH dX3_marks_30 ?_
      refine lv_iconst (v := (nI 0)) hx hb dX3_marks_33 (by decide) ?_
      refine fp_X3_58 X hH (l3 g3) dX3_marks_34 (fun H locs hH => ?_)
      obtain ⟨S4, ex, hf⟩ := bnd_go hf
      replace hH := HH_eq ex hH
      clear ex
      refine lv_aload_n hx hb dX3_marks_37 rfl (lv_at hl 0 rfl) ?_
      refine lv_dup hx hb dX3_marks_38 rfl ?_
      refine fg_X3_26 X hH dX3_marks_39 ?_
      refine lv_iconst (v := (nI 1)) hx hb dX3_marks_42 (by decide) ?_
      refine lv_iadd hx hb dX3_marks_43 ?_
      refine fp_X3_26 X hH dX3_marks_44 (fun H locs hH => ?_)
      obtain ⟨S5, ex, hf⟩ := bnd_go hf
      replace hH := HH_eq ex hH
      clear ex
      refine lv_aload_n hx hb dX3_marks_47 rfl (lv_at hl 0 rfl) ?_
      refine lv_iconst (v := (nI 2)) hx hb dX3_marks_48 (by decide) ?_
      refine fp_X3_22 X hH dX3_marks_49 (fun H locs hH => ?_)
      obtain ⟨S6, ex, hf⟩ := bnd_go hf
      replace hH := HH_eq ex hH
      clear ex
      refine lv_iconst (v := (nI 1)) hx hb dX3_marks_52 (by decide) ?_
      exact r_zret X hH (by decide) hf dX3_marks_53
    · replace hf := ite_f c0 hf
      refine lv_iconst (v := (nI 0)) hx hb dX3_marks_14 (by decide) ?_
      exact r_zret X hH (by decide) hf dX3_marks_15
theorem c_X3_marks {l : Launch} {E : Ev} (N : Nat) (S : St) (x1 : Int32) {r : Int32} {S1 : St} (hf : f_X3_marks N S x1 = some (r, S1)) : Ct l yX3_marks (.code yX3_marks cX3_marks 2 (some .boolean)) 1 E [.ref (bb E 4), .int x1] S (QI E r S1) := by
  refine Ct.of (by decide) (Nat.le_of_ble_eq_true rfl) (fun p e s m below meth c ls X hH hl => ?_)
  exact w_X3_marks_0 X N S x1 hf _ _ hH _ hl
set_option maxRecDepth 100000 in
set_option maxHeartbeats 4000000 in
theorem w_X3_tellsKind_25 {p : Program} {l : Launch} {e : Env} {s : State} {m : MethodId} {args : Array Value} {below : List Frame} {meth : Method} {c : Code} {E : Ev} {r : Int32} {S1 : St} (X : GX p s m meth c args cX3_tellsKind 2 (some .boolean) RX3 E) (N : Nat) : ∀ (S : St) (x1 : Int32) (xs0 : Int32) (js1 : Nat) (hjs1 : js1 < 6), f_X3_tellsKind_25 N S x1 xs0 js1 = some (r, S1) → ∀ (H : Heap) (locs : List Loc), HH E S s H locs → ∀ ls : Array Slot, lv_has ls 2 [(0, .ref (bb E 4)), (1, .int x1)] → W p l e (rmL 1) s m args below meth c H locs 0 0 (MQ below (QI E r S1 s.heap.size) args s 0 0 (AA E s.heap.size)) (F0 m 25 ls [.int xs0, .ref (bb E (20 + js1))]) := by
  have hx := X.1
  have hb := X.2.1
  intro S x1 xs0 js1 hjs1 hf H locs hH ls hl
  rw [f_X3_tellsKind_25] at hf
  refine fp_X3_61 X hH hjs1 dX3_tellsKind_25 (fun H locs hH => ?_)
  obtain ⟨S1, ex, hf⟩ := bnd_go hf
  replace hH := HH_eq ex hH
  clear ex
  refine lv_aload_n hx hb dX3_tellsKind_28 rfl (lv_at hl 0 rfl) ?_
  refine lv_iconst (v := (nI 3)) hx hb dX3_tellsKind_29 (by decide) ?_
  refine fp_X3_22 X hH dX3_tellsKind_30 (fun H locs hH => ?_)
  obtain ⟨S2, ex, hf⟩ := bnd_go hf
  replace hH := HH_eq ex hH
  clear ex
  refine lv_iload_n hx hb dX3_tellsKind_33 rfl (lv_at hl 1 rfl) ?_
  refine lv_bipush (v := (nI 112)) hx hb dX3_tellsKind_34 (by decide) ?_
  refine lv_icmp_eq (tgt := 51) hx hb dX3_tellsKind_36 (by decide) (fun c0 => ?_) (fun c0 => ?_)
  · replace hf := ite_t c0 hf
    refine lv_iconst (v := (nI 1)) hx hb dX3_tellsKind_51 (by decide) ?_
    refine lv_goto (tgt := 56) hx hb dX3_tellsKind_52 (by decide) ?_
    exact r_zret X hH (by decide) hf dX3_tellsKind_56
  · replace hf := ite_f c0 hf
    refine lv_iload_n hx hb dX3_tellsKind_39 rfl (lv_at hl 1 rfl) ?_
    refine lv_bipush (v := (nI 98)) hx hb dX3_tellsKind_40 (by decide) ?_
    refine lv_icmp_eq (tgt := 51) hx hb dX3_tellsKind_42 (by decide) (fun c0 => ?_) (fun c0 => ?_)
    · replace hf := ite_t c0 hf
      refine lv_iconst (v := (nI 1)) hx hb dX3_tellsKind_51 (by decide) ?_
      refine lv_goto (tgt := 56) hx hb dX3_tellsKind_52 (by decide) ?_
      exact r_zret X hH (by decide) hf dX3_tellsKind_56
    · replace hf := ite_f c0 hf
      refine lv_iload_n hx hb dX3_tellsKind_45 rfl (lv_at hl 1 rfl) ?_
      refine lv_bipush (v := (nI 101)) hx hb dX3_tellsKind_46 (by decide) ?_
      refine lv_icmp_ne (tgt := 55) hx hb dX3_tellsKind_48 (by decide) (fun c0 => ?_) (fun c0 => ?_)
      · replace hf := ite_f c0 hf
        refine lv_iconst (v := (nI 0)) hx hb dX3_tellsKind_55 (by decide) ?_
        exact r_zret X hH (by decide) hf dX3_tellsKind_56
      · replace hf := ite_t c0 hf
        refine lv_iconst (v := (nI 1)) hx hb dX3_tellsKind_51 (by decide) ?_
        refine lv_goto (tgt := 56) hx hb dX3_tellsKind_52 (by decide) ?_
        exact r_zret X hH (by decide) hf dX3_tellsKind_56
set_option maxRecDepth 100000 in
set_option maxHeartbeats 4000000 in
theorem w_X3_tellsKind_0 {p : Program} {l : Launch} {e : Env} {s : State} {m : MethodId} {args : Array Value} {below : List Frame} {meth : Method} {c : Code} {E : Ev} {r : Int32} {S1 : St} (X : GX p s m meth c args cX3_tellsKind 2 (some .boolean) RX3 E) (N : Nat) : ∀ (S : St) (x1 : Int32), f_X3_tellsKind N S x1 = some (r, S1) → ∀ (H : Heap) (locs : List Loc), HH E S s H locs → ∀ ls : Array Slot, lv_has ls 2 [(0, .ref (bb E 4)), (1, .int x1)] → W p l e (rmL 1) s m args below meth c H locs 0 0 (MQ below (QI E r S1 s.heap.size) args s 0 0 (AA E s.heap.size)) (F0 m 0 ls []) := by
  have hx := X.1
  have hb := X.2.1
  intro S x1 hf H locs hH ls hl
  rw [f_X3_tellsKind] at hf
  refine lv_aload_n hx hb dX3_tellsKind_0 rfl (lv_at hl 0 rfl) ?_
  obtain ⟨g1, hf⟩ := ite_g hf
  refine fg_X3_18 X hH dX3_tellsKind_1 ?_
  refine lv_iload_n hx hb dX3_tellsKind_4 rfl (lv_at hl 1 rfl) ?_
  refine lv_bipush (v := (nI 112)) hx hb dX3_tellsKind_5 (by decide) ?_
  refine lv_icmp_ne (tgt := 14) hx hb dX3_tellsKind_7 (by decide) (fun c0 => ?_) (fun c0 => ?_)
  · replace hf := ite_f c0 hf
    refine lv_iload_n hx hb dX3_tellsKind_14 rfl (lv_at hl 1 rfl) ?_
    refine lv_bipush (v := (nI 98)) hx hb dX3_tellsKind_15 (by decide) ?_
    refine lv_icmp_ne (tgt := 24) hx hb dX3_tellsKind_17 (by decide) (fun c0 => ?_) (fun c0 => ?_)
    · replace hf := ite_f c0 hf
      refine lv_iconst (v := (nI 2)) hx hb dX3_tellsKind_24 (by decide) ?_
      exact w_X3_tellsKind_25 X N S x1 (nI 2) (3 + (S 4 2).toNatClampNeg) (l3 g1) hf _ _ hH _ (lv_sub hl [0, 1] rfl)
    · replace hf := ite_t c0 hf
      refine lv_iconst (v := (nI 1)) hx hb dX3_tellsKind_20 (by decide) ?_
      refine lv_goto (tgt := 25) hx hb dX3_tellsKind_21 (by decide) ?_
      exact w_X3_tellsKind_25 X N S x1 (nI 1) (3 + (S 4 2).toNatClampNeg) (l3 g1) hf _ _ hH _ (lv_sub hl [0, 1] rfl)
  · replace hf := ite_t c0 hf
    refine lv_iconst (v := (nI 0)) hx hb dX3_tellsKind_10 (by decide) ?_
    refine lv_goto (tgt := 25) hx hb dX3_tellsKind_11 (by decide) ?_
    exact w_X3_tellsKind_25 X N S x1 (nI 0) (3 + (S 4 2).toNatClampNeg) (l3 g1) hf _ _ hH _ (lv_sub hl [0, 1] rfl)
theorem c_X3_tellsKind {l : Launch} {E : Ev} (N : Nat) (S : St) (x1 : Int32) {r : Int32} {S1 : St} (hf : f_X3_tellsKind N S x1 = some (r, S1)) : Ct l yX3_tellsKind (.code yX3_tellsKind cX3_tellsKind 2 (some .boolean)) 1 E [.ref (bb E 4), .int x1] S (QI E r S1) := by
  refine Ct.of (by decide) (Nat.le_of_ble_eq_true rfl) (fun p e s m below meth c ls X hH hl => ?_)
  exact w_X3_tellsKind_0 X N S x1 hf _ _ hH _ hl
set_option maxRecDepth 100000 in
set_option maxHeartbeats 4000000 in
theorem w_X3_tellsTimes_0 {p : Program} {l : Launch} {e : Env} {s : State} {m : MethodId} {args : Array Value} {below : List Frame} {meth : Method} {c : Code} {E : Ev} {r : Int32} {S1 : St} (X : GX p s m meth c args cX3_tellsTimes 2 (some .boolean) RX3 E) (N : Nat) : ∀ (S : St) (x1 : Int32), f_X3_tellsTimes N S x1 = some (r, S1) → ∀ (H : Heap) (locs : List Loc), HH E S s H locs → ∀ ls : Array Slot, lv_has ls 2 [(0, .ref (bb E 4)), (1, .int x1)] → W p l e (rmL 1) s m args below meth c H locs 0 0 (MQ below (QI E r S1 s.heap.size) args s 0 0 (AA E s.heap.size)) (F0 m 0 ls []) := by
  have hx := X.1
  have hb := X.2.1
  intro S x1 hf H locs hH ls hl
  rw [f_X3_tellsTimes] at hf
  refine lv_aload_n hx hb dX3_tellsTimes_0 rfl (lv_at hl 0 rfl) ?_
  obtain ⟨g1, hf⟩ := ite_g hf
  refine fg_X3_18 X hH dX3_tellsTimes_1 ?_
  refine lv_iload_n hx hb dX3_tellsTimes_4 rfl (lv_at hl 1 rfl) ?_
  refine lv_bipush (v := (nI 48)) hx hb dX3_tellsTimes_5 (by decide) ?_
  refine lv_isub hx hb dX3_tellsTimes_7 ?_
  refine fp_X3_64 X hH (l3 g1) dX3_tellsTimes_8 (fun H locs hH => ?_)
  obtain ⟨S2, ex, hf⟩ := bnd_go hf
  replace hH := HH_eq ex hH
  clear ex
  refine lv_aload_n hx hb dX3_tellsTimes_11 rfl (lv_at hl 0 rfl) ?_
  refine lv_iconst (v := (nI 4)) hx hb dX3_tellsTimes_12 (by decide) ?_
  refine fp_X3_22 X hH dX3_tellsTimes_13 (fun H locs hH => ?_)
  obtain ⟨S3, ex, hf⟩ := bnd_go hf
  replace hH := HH_eq ex hH
  clear ex
  refine lv_iload_n hx hb dX3_tellsTimes_16 rfl (lv_at hl 1 rfl) ?_
  refine lv_bipush (v := (nI 49)) hx hb dX3_tellsTimes_17 (by decide) ?_
  refine lv_icmp_lt (tgt := 32) hx hb dX3_tellsTimes_19 (by decide) (fun c0 => ?_) (fun c0 => ?_)
  · replace hf := ite_t c0 hf
    refine lv_iconst (v := (nI 0)) hx hb dX3_tellsTimes_32 (by decide) ?_
    exact r_zret X hH (by decide) hf dX3_tellsTimes_33
  · replace hf := ite_f c0 hf
    refine lv_iload_n hx hb dX3_tellsTimes_22 rfl (lv_at hl 1 rfl) ?_
    refine lv_bipush (v := (nI 51)) hx hb dX3_tellsTimes_23 (by decide) ?_
    refine lv_icmp_gt (tgt := 32) hx hb dX3_tellsTimes_25 (by decide) (fun c0 => ?_) (fun c0 => ?_)
    · replace hf := ite_t c0 hf
      refine lv_iconst (v := (nI 0)) hx hb dX3_tellsTimes_32 (by decide) ?_
      exact r_zret X hH (by decide) hf dX3_tellsTimes_33
    · replace hf := ite_f c0 hf
      refine lv_iconst (v := (nI 1)) hx hb dX3_tellsTimes_28 (by decide) ?_
      refine lv_goto (tgt := 33) hx hb dX3_tellsTimes_29 (by decide) ?_
      exact r_zret X hH (by decide) hf dX3_tellsTimes_33
theorem c_X3_tellsTimes {l : Launch} {E : Ev} (N : Nat) (S : St) (x1 : Int32) {r : Int32} {S1 : St} (hf : f_X3_tellsTimes N S x1 = some (r, S1)) : Ct l yX3_tellsTimes (.code yX3_tellsTimes cX3_tellsTimes 2 (some .boolean)) 1 E [.ref (bb E 4), .int x1] S (QI E r S1) := by
  refine Ct.of (by decide) (Nat.le_of_ble_eq_true rfl) (fun p e s m below meth c ls X hH hl => ?_)
  exact w_X3_tellsTimes_0 X N S x1 hf _ _ hH _ hl
set_option maxRecDepth 100000 in
set_option maxHeartbeats 4000000 in
theorem w_X3_goesOn_0 {p : Program} {l : Launch} {e : Env} {s : State} {m : MethodId} {args : Array Value} {below : List Frame} {meth : Method} {c : Code} {E : Ev} {r : Int32} {S1 : St} (X : GX p s m meth c args cX3_goesOn 2 (some .boolean) RX3 E) (N : Nat) : ∀ (S : St) (x1 : Int32), f_X3_goesOn N S x1 = some (r, S1) → ∀ (H : Heap) (locs : List Loc), HH E S s H locs → ∀ ls : Array Slot, lv_has ls 2 [(0, .ref (bb E 4)), (1, .int x1)] → W p l e (rmL 3) s m args below meth c H locs 0 0 (MQ below (QI E r S1 s.heap.size) args s 0 0 (AA E s.heap.size)) (F0 m 0 ls []) := by
  have hx := X.1
  have hb := X.2.1
  intro S x1 hf H locs hH ls hl
  rw [f_X3_goesOn] at hf
  refine lv_aload_n hx hb dX3_goesOn_0 rfl (lv_at hl 0 rfl) ?_
  refine fg_X3_22 X hH dX3_goesOn_1 ?_
  refine lv_topi (fun y1 ex => ?_)
  replace hf := bnd_at ex hf
  clear ex
  by_cases c0 : y1 = (nI 0)
  · replace hf := ite_t c0 hf
    subst c0
    refine lv_tableIn (tgt := 36) hx hb dX3_goesOn_4 (by decide) (by decide) rfl (by decide) ?_
    refine lv_aload_n hx hb dX3_goesOn_36 rfl (lv_at hl 0 rfl) ?_
    refine lv_iload_n hx hb dX3_goesOn_37 rfl (lv_at hl 1 rfl) ?_
    obtain ⟨r4, S2, h3, hf⟩ := cal_g hf
    refine go_i hH (run_V X hH (rest := []) (c_X3_begins N S x1 h3) gm_X3_43 (by decide) (e_4 E _) rfl rfl hl.1 (rmL_ok (by decide) (by decide)) (Nat.le_of_ble_eq_true rfl) rfl dX3_goesOn_38) (fun H locs hH => ?_)
    clear h3
    obtain ⟨g, hf⟩ := ite_g hf
    exact r_zret X hH (nb_n g) hf dX3_goesOn_41
  · replace hf := ite_f c0 hf
    by_cases c1 : y1 = (nI 1)
    · replace hf := ite_t c1 hf
      subst c1
      refine lv_tableIn (tgt := 42) hx hb dX3_goesOn_4 (by decide) (by decide) rfl (by decide) ?_
      refine lv_aload_n hx hb dX3_goesOn_42 rfl (lv_at hl 0 rfl) ?_
      refine lv_iload_n hx hb dX3_goesOn_43 rfl (lv_at hl 1 rfl) ?_
      obtain ⟨r7, S5, h6, hf⟩ := cal_g hf
      refine go_i hH (run_V X hH (rest := []) (c_X3_marks N S x1 h6) gm_X3_46 (by decide) (e_4 E _) rfl rfl hl.1 (rmL_ok (by decide) (by decide)) (Nat.le_of_ble_eq_true rfl) rfl dX3_goesOn_44) (fun H locs hH => ?_)
      clear h6
      obtain ⟨g, hf⟩ := ite_g hf
      exact r_zret X hH (nb_n g) hf dX3_goesOn_47
    · replace hf := ite_f c1 hf
      by_cases c2 : y1 = (nI 2)
      · replace hf := ite_t c2 hf
        subst c2
        refine lv_tableIn (tgt := 48) hx hb dX3_goesOn_4 (by decide) (by decide) rfl (by decide) ?_
        refine lv_aload_n hx hb dX3_goesOn_48 rfl (lv_at hl 0 rfl) ?_
        refine lv_iload_n hx hb dX3_goesOn_49 rfl (lv_at hl 1 rfl) ?_
        obtain ⟨r10, S8, h9, hf⟩ := cal_g hf
        refine go_i hH (run_V X hH (rest := []) (c_X3_tellsKind N S x1 h9) gm_X3_49 (by decide) (e_4 E _) rfl rfl hl.1 (rmL_ok (by decide) (by decide)) (Nat.le_of_ble_eq_true rfl) rfl dX3_goesOn_50) (fun H locs hH => ?_)
        clear h9
        obtain ⟨g, hf⟩ := ite_g hf
        exact r_zret X hH (nb_n g) hf dX3_goesOn_53
      · replace hf := ite_f c2 hf
        by_cases c3 : y1 = (nI 3)
        · replace hf := ite_t c3 hf
          subst c3
          refine lv_tableIn (tgt := 54) hx hb dX3_goesOn_4 (by decide) (by decide) rfl (by decide) ?_
          refine lv_aload_n hx hb dX3_goesOn_54 rfl (lv_at hl 0 rfl) ?_
          refine lv_iload_n hx hb dX3_goesOn_55 rfl (lv_at hl 1 rfl) ?_
          obtain ⟨r13, S11, h12, hf⟩ := cal_g hf
          refine go_i hH (run_V X hH (rest := []) (c_X3_tellsTimes N S x1 h12) gm_X3_52 (by decide) (e_4 E _) rfl rfl hl.1 (rmL_ok (by decide) (by decide)) (Nat.le_of_ble_eq_true rfl) rfl dX3_goesOn_56) (fun H locs hH => ?_)
          clear h12
          obtain ⟨g, hf⟩ := ite_g hf
          exact r_zret X hH (nb_n g) hf dX3_goesOn_59
        · replace hf := ite_f c3 hf
          refine lv_tableOut (tgt := 60) hx hb dX3_goesOn_4 (by have t0 : y1.toInt ≠ 0 := i32_ne c0; have t1 : y1.toInt ≠ 1 := i32_ne c1; have t2 : y1.toInt ≠ 2 := i32_ne c2; have t3 : y1.toInt ≠ 3 := i32_ne c3; omega) (by decide) ?_
          refine lv_aload_n hx hb dX3_goesOn_60 rfl (lv_at hl 0 rfl) ?_
          refine lv_iload_n hx hb dX3_goesOn_61 rfl (lv_at hl 1 rfl) ?_
          obtain ⟨r16, S14, h15, hf⟩ := cal_g hf
          refine go_i hH (run_V X hH (rest := []) (c_X3_addsKey N S x1 h15) gm_X3_55 (by decide) (e_4 E _) rfl rfl hl.1 (rmL_ok (by decide) (by decide)) (Nat.le_of_ble_eq_true rfl) rfl dX3_goesOn_62) (fun H locs hH => ?_)
          clear h15
          refine lv_if_ne (tgt := 83) hx hb dX3_goesOn_65 (by decide) (fun c0 => ?_) (fun c0 => ?_)
          · replace hf := ite_f c0 hf
            refine lv_iconst (v := (nI 1)) hx hb dX3_goesOn_83 (by decide) ?_
            refine lv_goto (tgt := 88) hx hb dX3_goesOn_84 (by decide) ?_
            exact r_zret X hH (by decide) hf dX3_goesOn_88
          · replace hf := ite_t c0 hf
            refine lv_aload_n hx hb dX3_goesOn_68 rfl (lv_at hl 0 rfl) ?_
            obtain ⟨r19, S17, h18, hf⟩ := cal_g hf
            refine go_i hH (run_V X hH (rest := []) (c_X3_hasKeys N S14 h18) gm_X3_39 (by decide) (e_4 E _) rfl rfl hl.1 (rmL_ok (by decide) (by decide)) (Nat.le_of_ble_eq_true rfl) rfl dX3_goesOn_69) (fun H locs hH => ?_)
            clear h18
            refine lv_if_eq (tgt := 87) hx hb dX3_goesOn_72 (by decide) (fun c0 => ?_) (fun c0 => ?_)
            · replace hf := ite_t c0 hf
              refine lv_iconst (v := (nI 0)) hx hb dX3_goesOn_87 (by decide) ?_
              exact r_zret X hH (by decide) hf dX3_goesOn_88
            · replace hf := ite_f c0 hf
              refine lv_aload_n hx hb dX3_goesOn_75 rfl (lv_at hl 0 rfl) ?_
              refine lv_iload_n hx hb dX3_goesOn_76 rfl (lv_at hl 1 rfl) ?_
              obtain ⟨r22, S20, h21, hf⟩ := cal_g hf
              refine go_i hH (run_V X hH (rest := []) (c_X3_marks N S17 x1 h21) gm_X3_46 (by decide) (e_4 E _) rfl rfl hl.1 (rmL_ok (by decide) (by decide)) (Nat.le_of_ble_eq_true rfl) rfl dX3_goesOn_77) (fun H locs hH => ?_)
              clear h21
              refine lv_if_eq (tgt := 87) hx hb dX3_goesOn_80 (by decide) (fun c0 => ?_) (fun c0 => ?_)
              · replace hf := ite_t c0 hf
                refine lv_iconst (v := (nI 0)) hx hb dX3_goesOn_87 (by decide) ?_
                exact r_zret X hH (by decide) hf dX3_goesOn_88
              · replace hf := ite_f c0 hf
                refine lv_iconst (v := (nI 1)) hx hb dX3_goesOn_83 (by decide) ?_
                refine lv_goto (tgt := 88) hx hb dX3_goesOn_84 (by decide) ?_
                exact r_zret X hH (by decide) hf dX3_goesOn_88
theorem c_X3_goesOn {l : Launch} {E : Ev} (N : Nat) (S : St) (x1 : Int32) {r : Int32} {S1 : St} (hf : f_X3_goesOn N S x1 = some (r, S1)) : Ct l yX3_goesOn (.code yX3_goesOn cX3_goesOn 2 (some .boolean)) 3 E [.ref (bb E 4), .int x1] S (QI E r S1) := by
  refine Ct.of (by decide) (Nat.le_of_ble_eq_true rfl) (fun p e s m below meth c ls X hH hl => ?_)
  exact w_X3_goesOn_0 X N S x1 hf _ _ hH _ hl
set_option maxRecDepth 100000 in
set_option maxHeartbeats 4000000 in
theorem w_X3_firstFault_13 {p : Program} {l : Launch} {e : Env} {s : State} {m : MethodId} {args : Array Value} {below : List Frame} {meth : Method} {c : Code} {E : Ev} {r : Int32} {S1 : St} (X : GX p s m meth c args cX3_firstFault 5 (some .int) RX3 E) (N : Nat) : ∀ (n : Nat) (S : St) (j1 : Nat) (x2 : Int32) (x3 : Int32) (x4 : Int32) (hj1 : j1 < 4), f_X3_firstFault_13 N n S j1 x2 x3 x4 = some (r, S1) → ∀ (H : Heap) (locs : List Loc), HH E S s H locs → ∀ ls : Array Slot, lv_has ls 5 [(0, .ref (bb E 4)), (1, .ref (bb E (12 + j1))), (2, .int x2), (3, .int x3), (4, .int x4)] → W p l e (rmL 4) s m args below meth c H locs 0 0 (MQ below (QI E r S1 s.heap.size) args s 0 0 (AA E s.heap.size)) (F0 m 13 ls []) := by
  have hx := X.1
  have hb := X.2.1
  intro n
  induction n with
  | zero =>
    intro S j1 x2 x3 x4 hj1 hf
    cases hf
  | succ n ih =>
    intro S j1 x2 x3 x4 hj1 hf H locs hH ls hl
    rw [f_X3_firstFault_13] at hf
    refine lv_iload hx hb dX3_firstFault_13 (lv_at hl 4 rfl) ?_
    refine lv_iload_n hx hb dX3_firstFault_15 rfl (lv_at hl 3 rfl) ?_
    refine lv_icmp_ge (tgt := 44) hx hb dX3_firstFault_16 (by decide) (fun c0 => ?_) (fun c0 => ?_)
    · replace hf := ite_t c0 hf
      refine lv_aload_n hx hb dX3_firstFault_44 rfl (lv_at hl 0 rfl) ?_
      obtain ⟨r3, S1, h2, hf⟩ := cal_g hf
      refine go_i hH (run_V X hH (rest := []) (c_X3_hasKeys N S h2) gm_X3_39 (by decide) (e_4 E _) rfl rfl hl.1 (rmL_ok (by decide) (by decide)) (Nat.le_of_ble_eq_true rfl) rfl dX3_firstFault_45) (fun H locs hH => ?_)
      clear h2
      refine lv_if_eq (tgt := 56) hx hb dX3_firstFault_48 (by decide) (fun c0 => ?_) (fun c0 => ?_)
      · replace hf := ite_t c0 hf
        refine lv_iload_n hx hb dX3_firstFault_56 rfl (lv_at hl 3 rfl) ?_
        exact r_iret X hH hf dX3_firstFault_57
      · replace hf := ite_f c0 hf
        refine lv_bipush (v := (-9 : Int32)) hx hb dX3_firstFault_51 (by decide) ?_
        refine lv_goto (tgt := 57) hx hb dX3_firstFault_53 (by decide) ?_
        exact r_iret X hH hf dX3_firstFault_57
    · replace hf := ite_f c0 hf
      refine lv_aload_n hx hb dX3_firstFault_19 rfl (lv_at hl 0 rfl) ?_
      refine lv_aload_n hx hb dX3_firstFault_20 rfl (lv_at hl 1 rfl) ?_
      refine fg_X3_29 X hH hj1 dX3_firstFault_21 ?_
      refine lv_iload_n hx hb dX3_firstFault_24 rfl (lv_at hl 2 rfl) ?_
      refine lv_iload hx hb dX3_firstFault_25 (lv_at hl 4 rfl) ?_
      refine lv_iadd hx hb dX3_firstFault_27 ?_
      obtain ⟨g, hf⟩ := ite_g hf
      refine r_iald X hH (a_sh E hj1) g dX3_firstFault_28 ?_
      obtain ⟨r6, S4, h5, hf⟩ := cal_g hf
      refine go_i hH (run_V X hH (rest := []) (c_X3_goesOn N S (S (16 + j1) (x2 + x4).toNatClampNeg) h5) gm_X3_35 (by decide) (e_4 E _) rfl rfl hl.1 (rmL_ok (by decide) (by decide)) (Nat.le_of_ble_eq_true rfl) rfl dX3_firstFault_29) (fun H locs hH => ?_)
      clear h5
      refine lv_if_ne (tgt := 38) hx hb dX3_firstFault_32 (by decide) (fun c0 => ?_) (fun c0 => ?_)
      · replace hf := ite_f c0 hf
        obtain ⟨y7, ex, hf⟩ := bnd_go hf
        refine lv_iinc (v := y7) (lv' := [(4, .int y7), (0, .ref (bb E 4)), (1, .ref (bb E (12 + j1))), (2, .int x2), (3, .int x3)]) hx hb dX3_firstFault_38 hl (k := 4) rfl (by rw [ex]; rfl) (by decide) rfl (fun ls hl => ?_)
        clear ex
        refine lv_goto (tgt := 13) hx hb dX3_firstFault_41 (by decide) ?_
        exact ih S4 j1 x2 x3 y7 hj1 hf _ _ hH _ (lv_sub hl [1, 2, 3, 4, 0] rfl)
      · replace hf := ite_t c0 hf
        refine lv_iload hx hb dX3_firstFault_35 (lv_at hl 4 rfl) ?_
        exact r_iret X hH hf dX3_firstFault_37
set_option maxRecDepth 100000 in
set_option maxHeartbeats 4000000 in
theorem w_X3_firstFault_0 {p : Program} {l : Launch} {e : Env} {s : State} {m : MethodId} {args : Array Value} {below : List Frame} {meth : Method} {c : Code} {E : Ev} {r : Int32} {S1 : St} (X : GX p s m meth c args cX3_firstFault 5 (some .int) RX3 E) (N : Nat) : ∀ (S : St) (j1 : Nat) (x2 : Int32) (x3 : Int32) (hj1 : j1 < 4), f_X3_firstFault N S j1 x2 x3 = some (r, S1) → ∀ (H : Heap) (locs : List Loc), HH E S s H locs → ∀ ls : Array Slot, lv_has ls 5 [(0, .ref (bb E 4)), (1, .ref (bb E (12 + j1))), (2, .int x2), (3, .int x3)] → W p l e (rmL 4) s m args below meth c H locs 0 0 (MQ below (QI E r S1 s.heap.size) args s 0 0 (AA E s.heap.size)) (F0 m 0 ls []) := by
  have hx := X.1
  have hb := X.2.1
  intro S j1 x2 x3 hj1 hf H locs hH ls hl
  rw [f_X3_firstFault] at hf
  refine lv_aload_n hx hb dX3_firstFault_0 rfl (lv_at hl 0 rfl) ?_
  refine lv_iconst (v := (nI 0)) hx hb dX3_firstFault_1 (by decide) ?_
  refine fp_X3_22 X hH dX3_firstFault_2 (fun H locs hH => ?_)
  obtain ⟨S1, ex, hf⟩ := bnd_go hf
  replace hH := HH_eq ex hH
  clear ex
  refine lv_aload_n hx hb dX3_firstFault_5 rfl (lv_at hl 0 rfl) ?_
  refine lv_iconst (v := (nI 0)) hx hb dX3_firstFault_6 (by decide) ?_
  refine fp_X3_26 X hH dX3_firstFault_7 (fun H locs hH => ?_)
  obtain ⟨S2, ex, hf⟩ := bnd_go hf
  replace hH := HH_eq ex hH
  clear ex
  refine lv_iconst (v := (nI 0)) hx hb dX3_firstFault_10 (by decide) ?_
  refine lv_topi (fun y3 ex => ?_)
  replace hf := bnd_at ex hf
  clear ex
  refine lv_istore (lv' := [(4, .int y3), (0, .ref (bb E 4)), (1, .ref (bb E (12 + j1))), (2, .int x2), (3, .int x3)]) hx hb dX3_firstFault_11 hl (by decide) rfl (fun ls hl => ?_)
  exact w_X3_firstFault_13 X N N S2 j1 x2 x3 y3 hj1 hf _ _ hH _ (lv_sub hl [1, 2, 3, 4, 0] rfl)
theorem c_X3_firstFault {l : Launch} {E : Ev} (N : Nat) (S : St) (j1 : Nat) (x2 : Int32) (x3 : Int32) (hj1 : j1 < 4) {r : Int32} {S1 : St} (hf : f_X3_firstFault N S j1 x2 x3 = some (r, S1)) : Ct l yX3_firstFault (.code yX3_firstFault cX3_firstFault 5 (some .int)) 4 E [.ref (bb E 4), .ref (bb E (12 + j1)), .int x2, .int x3] S (QI E r S1) := by
  refine Ct.of (by decide) (Nat.le_of_ble_eq_true rfl) (fun p e s m below meth c ls X hH hl => ?_)
  exact w_X3_firstFault_0 X N S j1 x2 x3 hj1 hf _ _ hH _ hl
set_option maxRecDepth 100000 in
set_option maxHeartbeats 4000000 in
theorem w_X4_playOn_16 {p : Program} {l : Launch} {e : Env} {s : State} {m : MethodId} {args : Array Value} {below : List Frame} {meth : Method} {c : Code} {E : Ev} {r : Int32} {S1 : St} (X : GX p s m meth c args cX4_playOn 5 (some .int) RX4 E) (N : Nat) : ∀ (n : Nat) (S : St) (x3 : Int32) (x4 : Int32), f_X4_playOn_16 N n S x3 x4 = some (r, S1) → ∀ (H : Heap) (locs : List Loc), HH E S s H locs → ∀ ls : Array Slot, lv_has ls 5 [(0, .ref (bb E 6)), (1, .ref (bb E 1)), (3, .int x3), (4, .int x4)] → W p l e (rmL 57) s m args below meth c H locs 0 0 (MQ below (QI E r S1 s.heap.size) args s 0 0 (AA E s.heap.size)) (F0 m 16 ls []) := by
  have hx := X.1
  have hb := X.2.1
  intro n
  induction n with
  | zero =>
    intro S x3 x4 hf
    cases hf
  | succ n ih =>
    intro S x3 x4 hf H locs hH ls hl
    rw [f_X4_playOn_16] at hf
    refine lv_iload hx hb dX4_playOn_16 (lv_at hl 3 rfl) ?_
    obtain ⟨r3, S1, h2, hf⟩ := cal_g hf
    refine go_i hH (run_S X hH (rest := []) (c_X1_isLine N S x4 h2) gm_X4_52 rfl hl.1 (rmL_ok (by decide) (by decide)) (Nat.le_of_ble_eq_true rfl) rfl dX4_playOn_18) (fun H locs hH => ?_)
    clear h2
    refine lv_if_eq (tgt := 80) hx hb dX4_playOn_21 (by decide) (fun c0 => ?_) (fun c0 => ?_)
    · replace hf := ite_t c0 hf
      refine lv_iload hx hb dX4_playOn_80 (lv_at hl 3 rfl) ?_
      exact r_iret X hH hf dX4_playOn_82
    · replace hf := ite_f c0 hf
      refine lv_aload_n hx hb dX4_playOn_24 rfl (lv_at hl 0 rfl) ?_
      refine fg_X4_17 X hH dX4_playOn_25 ?_
      refine lv_iload hx hb dX4_playOn_28 (lv_at hl 3 rfl) ?_
      obtain ⟨g, hf⟩ := ite_g hf
      refine r_iald X hH (a_8 E) g dX4_playOn_30 ?_
      refine lv_if_ne (tgt := 80) hx hb dX4_playOn_31 (by decide) (fun c0 => ?_) (fun c0 => ?_)
      · replace hf := ite_f c0 hf
        refine lv_iload hx hb dX4_playOn_80 (lv_at hl 3 rfl) ?_
        exact r_iret X hH hf dX4_playOn_82
      · replace hf := ite_t c0 hf
        refine lv_aload_n hx hb dX4_playOn_34 rfl (lv_at hl 0 rfl) ?_
        refine fg_X4_24 X hH dX4_playOn_35 ?_
        refine lv_sipush (v := (nI 7737)) hx hb dX4_playOn_38 (by decide) ?_
        refine lv_icmp_ge (tgt := 80) hx hb dX4_playOn_41 (by decide) (fun c0 => ?_) (fun c0 => ?_)
        · replace hf := ite_t c0 hf
          refine lv_iload hx hb dX4_playOn_80 (lv_at hl 3 rfl) ?_
          exact r_iret X hH hf dX4_playOn_82
        · replace hf := ite_f c0 hf
          refine lv_aload_n hx hb dX4_playOn_44 rfl (lv_at hl 0 rfl) ?_
          refine lv_dup hx hb dX4_playOn_45 rfl ?_
          refine fg_X4_24 X hH dX4_playOn_46 ?_
          refine lv_iconst (v := (nI 1)) hx hb dX4_playOn_49 (by decide) ?_
          refine lv_iadd hx hb dX4_playOn_50 ?_
          refine fp_X4_24 X hH dX4_playOn_51 (fun H locs hH => ?_)
          obtain ⟨S4, ex, hf⟩ := bnd_go hf
          replace hH := HH_eq ex hH
          clear ex
          refine lv_aload_n hx hb dX4_playOn_54 rfl (lv_at hl 0 rfl) ?_
          refine fg_X4_17 X hH dX4_playOn_55 ?_
          refine lv_iload hx hb dX4_playOn_58 (lv_at hl 3 rfl) ?_
          refine lv_aload_n hx hb dX4_playOn_60 rfl (lv_at hl 0 rfl) ?_
          refine fg_X4_24 X hH dX4_playOn_61 ?_
          obtain ⟨g, hf⟩ := ite_g hf
          refine r_iast X hH (a_8 E) g dX4_playOn_64 (fun H locs hH => ?_)
          obtain ⟨S5, ex, hf⟩ := bnd_go hf
          replace hH := HH_eq ex hH
          clear ex
          refine lv_aload_n hx hb dX4_playOn_65 rfl (lv_at hl 1 rfl) ?_
          refine lv_iload hx hb dX4_playOn_66 (lv_at hl 3 rfl) ?_
          refine lv_bipush (v := (nI 8)) hx hb dX4_playOn_68 (by decide) ?_
          refine lv_iload_n hx hb dX4_playOn_70 rfl (lv_at hl 2 rfl) ?_
          refine lv_iadd hx hb dX4_playOn_71 ?_
          obtain ⟨r8, S6, h7, hf⟩ := cal_g hf
          refine go_i hH (run_V X hH (rest := []) (c_X0_lineAfter N S5 x4 ((nI 8) + x3) h7) gm_X4_48 (by decide) (e_1 E _) rfl rfl hl.1 (rmL_ok (by decide) (by decide)) (Nat.le_of_ble_eq_true rfl) rfl dX4_playOn_72) (fun H locs hH => ?_)
          clear h7
          refine lv_istore (lv' := [(4, .int r8), (0, .ref (bb E 6)), (1, .ref (bb E 1)), (3, .int x3)]) hx hb dX4_playOn_75 hl (by decide) rfl (fun ls hl => ?_)
          refine lv_goto (tgt := 16) hx hb dX4_playOn_77 (by decide) ?_
          exact ih S6 x3 r8 hf _ _ hH _ (lv_sub hl [1, 2, 3, 0] rfl)
set_option maxRecDepth 100000 in
set_option maxHeartbeats 4000000 in
theorem w_X4_playOn_0 {p : Program} {l : Launch} {e : Env} {s : State} {m : MethodId} {args : Array Value} {below : List Frame} {meth : Method} {c : Code} {E : Ev} {r : Int32} {S1 : St} (X : GX p s m meth c args cX4_playOn 5 (some .int) RX4 E) (N : Nat) : ∀ (S : St) (x2 : Int32) (x3 : Int32), f_X4_playOn N S x2 x3 = some (r, S1) → ∀ (H : Heap) (locs : List Loc), HH E S s H locs → ∀ ls : Array Slot, lv_has ls 5 [(0, .ref (bb E 6)), (1, .ref (bb E 1)), (2, .int x2), (3, .int x3)] → W p l e (rmL 57) s m args below meth c H locs 0 0 (MQ below (QI E r S1 s.heap.size) args s 0 0 (AA E s.heap.size)) (F0 m 0 ls []) := by
  have hx := X.1
  have hb := X.2.1
  intro S x2 x3 hf H locs hH ls hl
  rw [f_X4_playOn] at hf
  refine lv_aload_n hx hb dX4_playOn_0 rfl (lv_at hl 0 rfl) ?_
  refine fg_X4_17 X hH dX4_playOn_1 ?_
  refine lv_iconst (v := (nI 0)) hx hb dX4_playOn_4 (by decide) ?_
  obtain ⟨_, S1, h2, hf⟩ := cal_g hf
  refine go_v hH (run_S X hH (rest := []) (c_J7_fill_53178 N S 8 7737 (nI 0) (a_8 E) h2) gm_X4_28 rfl hl.1 (rmL_ok (by decide) (by decide)) (Nat.le_of_ble_eq_true rfl) rfl dX4_playOn_5) (fun H locs hH => ?_)
  clear h2
  refine lv_aload_n hx hb dX4_playOn_8 rfl (lv_at hl 0 rfl) ?_
  refine lv_iconst (v := (nI 0)) hx hb dX4_playOn_9 (by decide) ?_
  refine fp_X4_24 X hH dX4_playOn_10 (fun H locs hH => ?_)
  obtain ⟨S4, ex, hf⟩ := bnd_go hf
  replace hH := HH_eq ex hH
  clear ex
  refine lv_iload_n hx hb dX4_playOn_13 rfl (lv_at hl 2 rfl) ?_
  refine lv_istore (lv' := [(4, .int x2), (0, .ref (bb E 6)), (1, .ref (bb E 1)), (2, .int x2), (3, .int x3)]) hx hb dX4_playOn_14 hl (by decide) rfl (fun ls hl => ?_)
  exact w_X4_playOn_16 X N N S4 x3 x2 hf _ _ hH _ (lv_sub hl [1, 2, 4, 0] rfl)
theorem c_X4_playOn {l : Launch} {E : Ev} (N : Nat) (S : St) (x2 : Int32) (x3 : Int32) {r : Int32} {S1 : St} (hf : f_X4_playOn N S x2 x3 = some (r, S1)) : Ct l yX4_playOn (.code yX4_playOn cX4_playOn 5 (some .int)) 57 E [.ref (bb E 6), .ref (bb E 1), .int x2, .int x3] S (QI E r S1) := by
  refine Ct.of (by decide) (Nat.le_of_ble_eq_true rfl) (fun p e s m below meth c ls X hH hl => ?_)
  exact w_X4_playOn_0 X N S x2 x3 hf _ _ hH _ hl
set_option maxRecDepth 100000 in
set_option maxHeartbeats 4000000 in
theorem w_X4_playsTo_0 {p : Program} {l : Launch} {e : Env} {s : State} {m : MethodId} {args : Array Value} {below : List Frame} {meth : Method} {c : Code} {E : Ev} {r : Int32} {S1 : St} (X : GX p s m meth c args cX4_playsTo 2 (some .int) RX4 E) (N : Nat) : ∀ (S : St) (x1 : Int32), f_X4_playsTo N S x1 = some (r, S1) → ∀ (H : Heap) (locs : List Loc), HH E S s H locs → ∀ ls : Array Slot, lv_has ls 2 [(0, .ref (bb E 6)), (1, .int x1)] → W p l e (rmL 2) s m args below meth c H locs 0 0 (MQ below (QI E r S1 s.heap.size) args s 0 0 (AA E s.heap.size)) (F0 m 0 ls []) := by
  have hx := X.1
  have hb := X.2.1
  intro S x1 hf H locs hH ls hl
  rw [f_X4_playsTo] at hf
  refine lv_iload_n hx hb dX4_playsTo_0 rfl (lv_at hl 1 rfl) ?_
  obtain ⟨r3, S1, h2, hf⟩ := cal_g hf
  refine go_i hH (run_S X hH (rest := []) (c_X1_isLine N S x1 h2) gm_X4_52 rfl hl.1 (rmL_ok (by decide) (by decide)) (Nat.le_of_ble_eq_true rfl) rfl dX4_playsTo_1) (fun H locs hH => ?_)
  clear h2
  refine lv_if_eq (tgt := 18) hx hb dX4_playsTo_4 (by decide) (fun c0 => ?_) (fun c0 => ?_)
  · replace hf := ite_t c0 hf
    refine lv_iconst (v := (nI 0)) hx hb dX4_playsTo_18 (by decide) ?_
    exact r_iret X hH hf dX4_playsTo_19
  · replace hf := ite_f c0 hf
    refine lv_aload_n hx hb dX4_playsTo_7 rfl (lv_at hl 0 rfl) ?_
    refine fg_X4_17 X hH dX4_playsTo_8 ?_
    refine lv_iload_n hx hb dX4_playsTo_11 rfl (lv_at hl 1 rfl) ?_
    obtain ⟨g, hf⟩ := ite_g hf
    refine r_iald X hH (a_8 E) g dX4_playsTo_12 ?_
    refine lv_iconst (v := (nI 1)) hx hb dX4_playsTo_13 (by decide) ?_
    refine lv_isub hx hb dX4_playsTo_14 ?_
    refine lv_goto (tgt := 19) hx hb dX4_playsTo_15 (by decide) ?_
    exact r_iret X hH hf dX4_playsTo_19
theorem c_X4_playsTo {l : Launch} {E : Ev} (N : Nat) (S : St) (x1 : Int32) {r : Int32} {S1 : St} (hf : f_X4_playsTo N S x1 = some (r, S1)) : Ct l yX4_playsTo (.code yX4_playsTo cX4_playsTo 2 (some .int)) 2 E [.ref (bb E 6), .int x1] S (QI E r S1) := by
  refine Ct.of (by decide) (Nat.le_of_ble_eq_true rfl) (fun p e s m below meth c ls X hH hl => ?_)
  exact w_X4_playsTo_0 X N S x1 hf _ _ hH _ hl
set_option maxRecDepth 100000 in
set_option maxHeartbeats 4000000 in
theorem w_X4_aheadOfRound_0 {p : Program} {l : Launch} {e : Env} {s : State} {m : MethodId} {args : Array Value} {below : List Frame} {meth : Method} {c : Code} {E : Ev} {r : Int32} {S1 : St} (X : GX p s m meth c args cX4_aheadOfRound 4 (some .int) RX4 E) (N : Nat) : ∀ (S : St) (x2 : Int32) (x3 : Int32), f_X4_aheadOfRound N S x2 x3 = some (r, S1) → ∀ (H : Heap) (locs : List Loc), HH E S s H locs → ∀ ls : Array Slot, lv_has ls 4 [(0, .ref (bb E 6)), (1, .ref (bb E 1)), (2, .int x2), (3, .int x3)] → W p l e (rmL 58) s m args below meth c H locs 0 0 (MQ below (QI E r S1 s.heap.size) args s 0 0 (AA E s.heap.size)) (F0 m 0 ls []) := by
  have hx := X.1
  have hb := X.2.1
  intro S x2 x3 hf H locs hH ls hl
  rw [f_X4_aheadOfRound] at hf
  refine lv_aload_n hx hb dX4_aheadOfRound_0 rfl (lv_at hl 0 rfl) ?_
  refine lv_aload_n hx hb dX4_aheadOfRound_1 rfl (lv_at hl 0 rfl) ?_
  refine lv_aload_n hx hb dX4_aheadOfRound_2 rfl (lv_at hl 1 rfl) ?_
  refine lv_iload_n hx hb dX4_aheadOfRound_3 rfl (lv_at hl 2 rfl) ?_
  refine lv_iload_n hx hb dX4_aheadOfRound_4 rfl (lv_at hl 3 rfl) ?_
  obtain ⟨r3, S1, h2, hf⟩ := cal_g hf
  refine go_i hH (run_V X hH (rest := [.ref (bb E 6)]) (c_X4_playOn N S x2 x3 h2) gm_X4_63 (by decide) (e_6 E _) rfl rfl hl.1 (rmL_ok (by decide) (by decide)) (Nat.le_of_ble_eq_true rfl) rfl dX4_aheadOfRound_5) (fun H locs hH => ?_)
  clear h2
  obtain ⟨r6, S4, h5, hf⟩ := cal_g hf
  refine go_i hH (run_V X hH (rest := []) (c_X4_playsTo N S1 r3 h5) gm_X4_67 (by decide) (e_6 E _) rfl rfl hl.1 (rmL_ok (by decide) (by decide)) (Nat.le_of_ble_eq_true rfl) rfl dX4_aheadOfRound_8) (fun H locs hH => ?_)
  clear h5
  exact r_iret X hH hf dX4_aheadOfRound_11
theorem c_X4_aheadOfRound {l : Launch} {E : Ev} (N : Nat) (S : St) (x2 : Int32) (x3 : Int32) {r : Int32} {S1 : St} (hf : f_X4_aheadOfRound N S x2 x3 = some (r, S1)) : Ct l yX4_aheadOfRound (.code yX4_aheadOfRound cX4_aheadOfRound 4 (some .int)) 58 E [.ref (bb E 6), .ref (bb E 1), .int x2, .int x3] S (QI E r S1) := by
  refine Ct.of (by decide) (Nat.le_of_ble_eq_true rfl) (fun p e s m below meth c ls X hH hl => ?_)
  exact w_X4_aheadOfRound_0 X N S x2 x3 hf _ _ hH _ hl
set_option maxRecDepth 100000 in
set_option maxHeartbeats 4000000 in
theorem w_X4_hasLetters_0 {p : Program} {l : Launch} {e : Env} {s : State} {m : MethodId} {args : Array Value} {below : List Frame} {meth : Method} {c : Code} {E : Ev} {r : Int32} {S1 : St} (X : GX p s m meth c args cX4_hasLetters 2 (some .boolean) RX4 E) (N : Nat) : ∀ (S : St) (x0 : Int32) (x1 : Int32), f_X4_hasLetters N S x0 x1 = some (r, S1) → ∀ (H : Heap) (locs : List Loc), HH E S s H locs → ∀ ls : Array Slot, lv_has ls 2 [(0, .int x0), (1, .int x1)] → W p l e (rmL 3) s m args below meth c H locs 0 0 (MQ below (QI E r S1 s.heap.size) args s 0 0 (AA E s.heap.size)) (F0 m 0 ls []) := by
  have hx := X.1
  have hb := X.2.1
  intro S x0 x1 hf H locs hH ls hl
  rw [f_X4_hasLetters] at hf
  refine lv_iload_n hx hb dX4_hasLetters_0 rfl (lv_at hl 0 rfl) ?_
  refine lv_bipush (v := (nI 7)) hx hb dX4_hasLetters_1 (by decide) ?_
  obtain ⟨r3, S1, h2, hf⟩ := cal_g hf
  refine go_i hH (run_S X hH (rest := []) (c_X1_after N S x0 (nI 7) h2) gm_X4_56 rfl hl.1 (rmL_ok (by decide) (by decide)) (Nat.le_of_ble_eq_true rfl) rfl dX4_hasLetters_3) (fun H locs hH => ?_)
  clear h2
  refine lv_iload_n hx hb dX4_hasLetters_6 rfl (lv_at hl 1 rfl) ?_
  refine lv_icmp_ne (tgt := 14) hx hb dX4_hasLetters_7 (by decide) (fun c0 => ?_) (fun c0 => ?_)
  · replace hf := ite_f c0 hf
    refine lv_iconst (v := (nI 0)) hx hb dX4_hasLetters_14 (by decide) ?_
    exact r_zret X hH (by decide) hf dX4_hasLetters_15
  · replace hf := ite_t c0 hf
    refine lv_iconst (v := (nI 1)) hx hb dX4_hasLetters_10 (by decide) ?_
    refine lv_goto (tgt := 15) hx hb dX4_hasLetters_11 (by decide) ?_
    exact r_zret X hH (by decide) hf dX4_hasLetters_15
theorem c_X4_hasLetters {l : Launch} {E : Ev} (N : Nat) (S : St) (x0 : Int32) (x1 : Int32) {r : Int32} {S1 : St} (hf : f_X4_hasLetters N S x0 x1 = some (r, S1)) : Ct l yX4_hasLetters (.code yX4_hasLetters cX4_hasLetters 2 (some .boolean)) 3 E [.int x0, .int x1] S (QI E r S1) := by
  refine Ct.of (by decide) (Nat.le_of_ble_eq_true rfl) (fun p e s m below meth c ls X hH hl => ?_)
  exact w_X4_hasLetters_0 X N S x0 x1 hf _ _ hH _ hl
set_option maxRecDepth 100000 in
set_option maxHeartbeats 4000000 in
theorem w_X4_queueUp_0 {p : Program} {l : Launch} {e : Env} {s : State} {m : MethodId} {args : Array Value} {below : List Frame} {meth : Method} {c : Code} {E : Ev} {r : Unit} {S1 : St} (X : GX p s m meth c args cX4_queueUp 3 none RX4 E) (N : Nat) : ∀ (S : St) (x1 : Int32) (x2 : Int32), f_X4_queueUp N S x1 x2 = some (r, S1) → ∀ (H : Heap) (locs : List Loc), HH E S s H locs → ∀ ls : Array Slot, lv_has ls 3 [(0, .ref (bb E 6)), (1, .int x1), (2, .int x2)] → W p l e (rmL 2) s m args below meth c H locs 0 0 (MQ below (QV E r S1 s.heap.size) args s 0 0 (AA E s.heap.size)) (F0 m 0 ls []) := by
  have hx := X.1
  have hb := X.2.1
  intro S x1 x2 hf H locs hH ls hl
  rw [f_X4_queueUp] at hf
  refine lv_aload_n hx hb dX4_queueUp_0 rfl (lv_at hl 0 rfl) ?_
  refine fg_X4_24 X hH dX4_queueUp_1 ?_
  refine lv_sipush (v := (nI 7737)) hx hb dX4_queueUp_4 (by decide) ?_
  refine lv_icmp_ge (tgt := 44) hx hb dX4_queueUp_7 (by decide) (fun c0 => ?_) (fun c0 => ?_)
  · replace hf := ite_t c0 hf
    exact r_vret X hH hf dX4_queueUp_44
  · replace hf := ite_f c0 hf
    refine lv_iload_n hx hb dX4_queueUp_10 rfl (lv_at hl 1 rfl) ?_
    obtain ⟨r3, S1, h2, hf⟩ := cal_g hf
    refine go_i hH (run_S X hH (rest := []) (c_X1_isLine N S x1 h2) gm_X4_52 rfl hl.1 (rmL_ok (by decide) (by decide)) (Nat.le_of_ble_eq_true rfl) rfl dX4_queueUp_11) (fun H locs hH => ?_)
    clear h2
    refine lv_if_eq (tgt := 44) hx hb dX4_queueUp_14 (by decide) (fun c0 => ?_) (fun c0 => ?_)
    · replace hf := ite_t c0 hf
      exact r_vret X hH hf dX4_queueUp_44
    · replace hf := ite_f c0 hf
      refine lv_aload_n hx hb dX4_queueUp_17 rfl (lv_at hl 0 rfl) ?_
      refine fg_X4_17 X hH dX4_queueUp_18 ?_
      refine lv_iload_n hx hb dX4_queueUp_21 rfl (lv_at hl 1 rfl) ?_
      refine lv_iload_n hx hb dX4_queueUp_22 rfl (lv_at hl 2 rfl) ?_
      obtain ⟨g, hf⟩ := ite_g hf
      refine r_iast X hH (a_8 E) g dX4_queueUp_23 (fun H locs hH => ?_)
      obtain ⟨S4, ex, hf⟩ := bnd_go hf
      replace hH := HH_eq ex hH
      clear ex
      refine lv_aload_n hx hb dX4_queueUp_24 rfl (lv_at hl 0 rfl) ?_
      refine fg_X4_11 X hH dX4_queueUp_25 ?_
      refine lv_aload_n hx hb dX4_queueUp_28 rfl (lv_at hl 0 rfl) ?_
      refine fg_X4_24 X hH dX4_queueUp_29 ?_
      refine lv_iload_n hx hb dX4_queueUp_32 rfl (lv_at hl 1 rfl) ?_
      obtain ⟨g, hf⟩ := ite_g hf
      refine r_iast X hH (a_7 E) g dX4_queueUp_33 (fun H locs hH => ?_)
      obtain ⟨S5, ex, hf⟩ := bnd_go hf
      replace hH := HH_eq ex hH
      clear ex
      refine lv_aload_n hx hb dX4_queueUp_34 rfl (lv_at hl 0 rfl) ?_
      refine lv_dup hx hb dX4_queueUp_35 rfl ?_
      refine fg_X4_24 X hH dX4_queueUp_36 ?_
      refine lv_iconst (v := (nI 1)) hx hb dX4_queueUp_39 (by decide) ?_
      refine lv_iadd hx hb dX4_queueUp_40 ?_
      refine fp_X4_24 X hH dX4_queueUp_41 (fun H locs hH => ?_)
      obtain ⟨S6, ex, hf⟩ := bnd_go hf
      replace hH := HH_eq ex hH
      clear ex
      exact r_vret X hH hf dX4_queueUp_44
theorem c_X4_queueUp {l : Launch} {E : Ev} (N : Nat) (S : St) (x1 : Int32) (x2 : Int32) {r : Unit} {S1 : St} (hf : f_X4_queueUp N S x1 x2 = some (r, S1)) : Ct l yX4_queueUp (.code yX4_queueUp cX4_queueUp 3 none) 2 E [.ref (bb E 6), .int x1, .int x2] S (QV E r S1) := by
  refine Ct.of (by decide) (Nat.le_of_ble_eq_true rfl) (fun p e s m below meth c ls X hH hl => ?_)
  exact w_X4_queueUp_0 X N S x1 x2 hf _ _ hH _ hl
set_option maxRecDepth 100000 in
set_option maxHeartbeats 4000000 in
theorem w_X4_find_62 {p : Program} {l : Launch} {e : Env} {s : State} {m : MethodId} {args : Array Value} {below : List Frame} {meth : Method} {c : Code} {E : Ev} {r : Int32} {S1 : St} (X : GX p s m meth c args cX4_find 9 (some .int) RX4 E) (N : Nat) (k33 : St → Int32 → Int32 → Int32 → Option (Int32 × St)) (hk33 : ∀ (S : St) (x3 : Int32) (x4 : Int32) (x5 : Int32), k33 S x3 x4 x5 = some (r, S1) → ∀ (H : Heap) (locs : List Loc), HH E S s H locs → ∀ ls : Array Slot, lv_has ls 9 [(0, .ref (bb E 6)), (1, .ref (bb E 1)), (3, .int x3), (4, .int x4), (5, .int x5)] → W p l e (rmL 57) s m args below meth c H locs 0 0 (MQ below (QI E r S1 s.heap.size) args s 0 0 (AA E s.heap.size)) (F0 m 33 ls [])) : ∀ (n : Nat) (S : St) (x3 : Int32) (x4 : Int32) (x5 : Int32) (x6 : Int32) (x7 : Int32), f_X4_find_62 N k33 n S x3 x4 x5 x6 x7 = some (r, S1) → ∀ (H : Heap) (locs : List Loc), HH E S s H locs → ∀ ls : Array Slot, lv_has ls 9 [(0, .ref (bb E 6)), (1, .ref (bb E 1)), (3, .int x3), (4, .int x4), (5, .int x5), (6, .int x6), (7, .int x7)] → W p l e (rmL 57) s m args below meth c H locs 0 0 (MQ below (QI E r S1 s.heap.size) args s 0 0 (AA E s.heap.size)) (F0 m 62 ls []) := by
  have hx := X.1
  have hb := X.2.1
  intro n
  induction n with
  | zero =>
    intro S x3 x4 x5 x6 x7 hf
    cases hf
  | succ n ih =>
    intro S x3 x4 x5 x6 x7 hf H locs hH ls hl
    rw [f_X4_find_62] at hf
    refine lv_iload hx hb dX4_find_62 (lv_at hl 6 rfl) ?_
    refine lv_aload_n hx hb dX4_find_64 rfl (lv_at hl 1 rfl) ?_
    obtain ⟨r3, S1, h2, hf⟩ := cal_g hf
    refine go_i hH (run_V X hH (rest := [.int x7]) (c_X0_keysThereAre N S h2) gm_X4_42 (by decide) (e_1 E _) rfl rfl hl.1 (rmL_ok (by decide) (by decide)) (Nat.le_of_ble_eq_true rfl) rfl dX4_find_65) (fun H locs hH => ?_)
    clear h2
    refine lv_icmp_ge (tgt := 136) hx hb dX4_find_68 (by decide) (fun c0 => ?_) (fun c0 => ?_)
    · replace hf := ite_t c0 hf
      obtain ⟨y4, ex, hf⟩ := bnd_go hf
      refine lv_iinc (v := y4) (lv' := [(5, .int y4), (0, .ref (bb E 6)), (1, .ref (bb E 1)), (3, .int x3), (4, .int x4), (6, .int x6), (7, .int x7)]) hx hb dX4_find_136 hl (k := 4) rfl (by rw [ex]; rfl) (by decide) rfl (fun ls hl => ?_)
      clear ex
      refine lv_goto (tgt := 33) hx hb dX4_find_139 (by decide) ?_
      exact hk33 S1 x3 x4 y4 hf _ _ hH _ (lv_sub hl [1, 2, 3, 4, 0] rfl)
    · replace hf := ite_f c0 hf
      refine lv_aload_n hx hb dX4_find_71 rfl (lv_at hl 1 rfl) ?_
      refine lv_iload hx hb dX4_find_72 (lv_at hl 5 rfl) ?_
      refine lv_iload hx hb dX4_find_74 (lv_at hl 6 rfl) ?_
      obtain ⟨r7, S5, h6, hf⟩ := cal_g hf
      refine go_i hH (run_V X hH (rest := []) (c_X0_lineAfter N S1 x6 x7 h6) gm_X4_48 (by decide) (e_1 E _) rfl rfl hl.1 (rmL_ok (by decide) (by decide)) (Nat.le_of_ble_eq_true rfl) rfl dX4_find_76) (fun H locs hH => ?_)
      clear h6
      refine lv_istore (lv' := [(8, .int r7), (0, .ref (bb E 6)), (1, .ref (bb E 1)), (3, .int x3), (4, .int x4), (5, .int x5), (6, .int x6), (7, .int x7)]) hx hb dX4_find_79 hl (by decide) rfl (fun ls hl => ?_)
      refine lv_iload hx hb dX4_find_81 (lv_at hl 0 rfl) ?_
      obtain ⟨r10, S8, h9, hf⟩ := cal_g hf
      refine go_i hH (run_S X hH (rest := []) (c_X1_isLine N S5 r7 h9) gm_X4_52 rfl hl.1 (rmL_ok (by decide) (by decide)) (Nat.le_of_ble_eq_true rfl) rfl dX4_find_83) (fun H locs hH => ?_)
      clear h9
      refine lv_if_eq (tgt := 130) hx hb dX4_find_86 (by decide) (fun c0 => ?_) (fun c0 => ?_)
      · replace hf := ite_t c0 hf
        obtain ⟨y11, ex, hf⟩ := bnd_go hf
        refine lv_iinc (v := y11) (lv' := [(7, .int y11), (8, .int r7), (0, .ref (bb E 6)), (1, .ref (bb E 1)), (3, .int x3), (4, .int x4), (5, .int x5), (6, .int x6)]) hx hb dX4_find_130 hl (k := 7) rfl (by rw [ex]; rfl) (by decide) rfl (fun ls hl => ?_)
        clear ex
        refine lv_goto (tgt := 62) hx hb dX4_find_133 (by decide) ?_
        exact ih S8 x3 x4 x5 x6 y11 hf _ _ hH _ (lv_sub hl [2, 3, 4, 5, 6, 7, 0] rfl)
      · replace hf := ite_f c0 hf
        refine lv_aload_n hx hb dX4_find_89 rfl (lv_at hl 1 rfl) ?_
        refine fg_X4_17 X hH dX4_find_90 ?_
        refine lv_iload hx hb dX4_find_93 (lv_at hl 0 rfl) ?_
        obtain ⟨g, hf⟩ := ite_g hf
        refine r_iald X hH (a_8 E) g dX4_find_95 ?_
        refine lv_if_eq (tgt := 102) hx hb dX4_find_96 (by decide) (fun c0 => ?_) (fun c0 => ?_)
        · replace hf := ite_t c0 hf
          refine lv_aload_n hx hb dX4_find_102 rfl (lv_at hl 1 rfl) ?_
          refine lv_iload hx hb dX4_find_103 (lv_at hl 0 rfl) ?_
          refine lv_iconst (v := (nI 1)) hx hb dX4_find_105 (by decide) ?_
          refine lv_iload hx hb dX4_find_106 (lv_at hl 6 rfl) ?_
          refine lv_iconst (v := (nI 4)) hx hb dX4_find_108 (by decide) ?_
          refine lv_ishl hx hb dX4_find_109 ?_
          refine lv_iload hx hb dX4_find_110 (lv_at hl 7 rfl) ?_
          refine lv_ior hx hb dX4_find_112 ?_
          refine lv_iadd hx hb dX4_find_113 ?_
          obtain ⟨_, S12, h13, hf⟩ := cal_g hf
          refine go_v hH (run_V X hH (rest := []) (c_X4_queueUp N S8 r7 ((nI 1) + ((x6 <<< ((nI 4) &&& (31 : Int32))) ||| x7)) h13) gm_X4_34 (by decide) (e_6 E _) rfl rfl hl.1 (rmL_ok (by decide) (by decide)) (Nat.le_of_ble_eq_true rfl) rfl dX4_find_114) (fun H locs hH => ?_)
          clear h13
          refine lv_iload hx hb dX4_find_117 (lv_at hl 0 rfl) ?_
          refine lv_iload hx hb dX4_find_119 (lv_at hl 4 rfl) ?_
          obtain ⟨r17, S15, h16, hf⟩ := cal_g hf
          refine go_i hH (run_S X hH (rest := []) (c_X4_hasLetters N S12 r7 x4 h16) gm_X4_38 rfl hl.1 (rmL_ok (by decide) (by decide)) (Nat.le_of_ble_eq_true rfl) rfl dX4_find_121) (fun H locs hH => ?_)
          clear h16
          refine lv_if_eq (tgt := 130) hx hb dX4_find_124 (by decide) (fun c0 => ?_) (fun c0 => ?_)
          · replace hf := ite_t c0 hf
            obtain ⟨y18, ex, hf⟩ := bnd_go hf
            refine lv_iinc (v := y18) (lv' := [(7, .int y18), (8, .int r7), (0, .ref (bb E 6)), (1, .ref (bb E 1)), (3, .int x3), (4, .int x4), (5, .int x5), (6, .int x6)]) hx hb dX4_find_130 hl (k := 7) rfl (by rw [ex]; rfl) (by decide) rfl (fun ls hl => ?_)
            clear ex
            refine lv_goto (tgt := 62) hx hb dX4_find_133 (by decide) ?_
            exact ih S15 x3 x4 x5 x6 y18 hf _ _ hH _ (lv_sub hl [2, 3, 4, 5, 6, 7, 0] rfl)
          · replace hf := ite_f c0 hf
            refine lv_iload hx hb dX4_find_127 (lv_at hl 0 rfl) ?_
            exact r_iret X hH hf dX4_find_129
        · replace hf := ite_f c0 hf
          refine lv_goto (tgt := 130) hx hb dX4_find_99 (by decide) ?_
          obtain ⟨y19, ex, hf⟩ := bnd_go hf
          refine lv_iinc (v := y19) (lv' := [(7, .int y19), (8, .int r7), (0, .ref (bb E 6)), (1, .ref (bb E 1)), (3, .int x3), (4, .int x4), (5, .int x5), (6, .int x6)]) hx hb dX4_find_130 hl (k := 7) rfl (by rw [ex]; rfl) (by decide) rfl (fun ls hl => ?_)
          clear ex
          refine lv_goto (tgt := 62) hx hb dX4_find_133 (by decide) ?_
          exact ih S8 x3 x4 x5 x6 y19 hf _ _ hH _ (lv_sub hl [2, 3, 4, 5, 6, 7, 0] rfl)
set_option maxRecDepth 100000 in
set_option maxHeartbeats 4000000 in
theorem w_X4_find_33 {p : Program} {l : Launch} {e : Env} {s : State} {m : MethodId} {args : Array Value} {below : List Frame} {meth : Method} {c : Code} {E : Ev} {r : Int32} {S1 : St} (X : GX p s m meth c args cX4_find 9 (some .int) RX4 E) (N : Nat) : ∀ (n : Nat) (S : St) (x3 : Int32) (x4 : Int32) (x5 : Int32), f_X4_find_33 N n S x3 x4 x5 = some (r, S1) → ∀ (H : Heap) (locs : List Loc), HH E S s H locs → ∀ ls : Array Slot, lv_has ls 9 [(0, .ref (bb E 6)), (1, .ref (bb E 1)), (3, .int x3), (4, .int x4), (5, .int x5)] → W p l e (rmL 57) s m args below meth c H locs 0 0 (MQ below (QI E r S1 s.heap.size) args s 0 0 (AA E s.heap.size)) (F0 m 33 ls []) := by
  have hx := X.1
  have hb := X.2.1
  intro n
  induction n with
  | zero =>
    intro S x3 x4 x5 hf
    cases hf
  | succ n ih =>
    intro S x3 x4 x5 hf H locs hH ls hl
    rw [f_X4_find_33] at hf
    refine lv_iload hx hb dX4_find_33 (lv_at hl 4 rfl) ?_
    refine lv_aload_n hx hb dX4_find_35 rfl (lv_at hl 0 rfl) ?_
    refine fg_X4_24 X hH dX4_find_36 ?_
    refine lv_icmp_ge (tgt := 142) hx hb dX4_find_39 (by decide) (fun c0 => ?_) (fun c0 => ?_)
    · replace hf := ite_t c0 hf
      refine lv_bipush (v := (-9 : Int32)) hx hb dX4_find_142 (by decide) ?_
      exact r_iret X hH hf dX4_find_144
    · replace hf := ite_f c0 hf
      refine lv_iload hx hb dX4_find_42 (lv_at hl 4 rfl) ?_
      refine lv_sipush (v := (nI 7737)) hx hb dX4_find_44 (by decide) ?_
      refine lv_icmp_ge (tgt := 142) hx hb dX4_find_47 (by decide) (fun c0 => ?_) (fun c0 => ?_)
      · replace hf := ite_t c0 hf
        refine lv_bipush (v := (-9 : Int32)) hx hb dX4_find_142 (by decide) ?_
        exact r_iret X hH hf dX4_find_144
      · replace hf := ite_f c0 hf
        refine lv_aload_n hx hb dX4_find_50 rfl (lv_at hl 0 rfl) ?_
        refine fg_X4_11 X hH dX4_find_51 ?_
        refine lv_iload hx hb dX4_find_54 (lv_at hl 4 rfl) ?_
        obtain ⟨g, hf⟩ := ite_g hf
        refine r_iald X hH (a_7 E) g dX4_find_56 ?_
        refine lv_topi (fun y1 ex => ?_)
        replace hf := bnd_at ex hf
        clear ex
        refine lv_istore (lv' := [(6, .int y1), (0, .ref (bb E 6)), (1, .ref (bb E 1)), (3, .int x3), (4, .int x4), (5, .int x5)]) hx hb dX4_find_57 hl (by decide) rfl (fun ls hl => ?_)
        refine lv_iload_n hx hb dX4_find_59 rfl (lv_at hl 3 rfl) ?_
        refine lv_istore (lv' := [(7, .int x3), (6, .int y1), (0, .ref (bb E 6)), (1, .ref (bb E 1)), (3, .int x3), (4, .int x4), (5, .int x5)]) hx hb dX4_find_60 hl (by decide) rfl (fun ls hl => ?_)
        exact w_X4_find_62 X N (f_X4_find_33 N n) ih N S x3 x4 x5 y1 x3 hf _ _ hH _ (lv_sub hl [2, 3, 4, 5, 6, 1, 0] rfl)
set_option maxRecDepth 100000 in
set_option maxHeartbeats 4000000 in
theorem w_X4_find_0 {p : Program} {l : Launch} {e : Env} {s : State} {m : MethodId} {args : Array Value} {below : List Frame} {meth : Method} {c : Code} {E : Ev} {r : Int32} {S1 : St} (X : GX p s m meth c args cX4_find 9 (some .int) RX4 E) (N : Nat) : ∀ (S : St) (x2 : Int32) (x3 : Int32) (x4 : Int32), f_X4_find N S x2 x3 x4 = some (r, S1) → ∀ (H : Heap) (locs : List Loc), HH E S s H locs → ∀ ls : Array Slot, lv_has ls 9 [(0, .ref (bb E 6)), (1, .ref (bb E 1)), (2, .int x2), (3, .int x3), (4, .int x4)] → W p l e (rmL 57) s m args below meth c H locs 0 0 (MQ below (QI E r S1 s.heap.size) args s 0 0 (AA E s.heap.size)) (F0 m 0 ls []) := by
  have hx := X.1
  have hb := X.2.1
  intro S x2 x3 x4 hf H locs hH ls hl
  rw [f_X4_find] at hf
  refine lv_aload_n hx hb dX4_find_0 rfl (lv_at hl 0 rfl) ?_
  refine fg_X4_17 X hH dX4_find_1 ?_
  refine lv_iconst (v := (nI 0)) hx hb dX4_find_4 (by decide) ?_
  obtain ⟨_, S1, h2, hf⟩ := cal_g hf
  refine go_v hH (run_S X hH (rest := []) (c_J7_fill_53178 N S 8 7737 (nI 0) (a_8 E) h2) gm_X4_28 rfl hl.1 (rmL_ok (by decide) (by decide)) (Nat.le_of_ble_eq_true rfl) rfl dX4_find_5) (fun H locs hH => ?_)
  clear h2
  refine lv_aload_n hx hb dX4_find_8 rfl (lv_at hl 0 rfl) ?_
  refine lv_iconst (v := (nI 0)) hx hb dX4_find_9 (by decide) ?_
  refine fp_X4_24 X hH dX4_find_10 (fun H locs hH => ?_)
  obtain ⟨S4, ex, hf⟩ := bnd_go hf
  replace hH := HH_eq ex hH
  clear ex
  refine lv_aload_n hx hb dX4_find_13 rfl (lv_at hl 0 rfl) ?_
  refine lv_iload_n hx hb dX4_find_14 rfl (lv_at hl 2 rfl) ?_
  refine lv_iconst (v := (-1 : Int32)) hx hb dX4_find_15 (by decide) ?_
  obtain ⟨_, S5, h6, hf⟩ := cal_g hf
  refine go_v hH (run_V X hH (rest := []) (c_X4_queueUp N S4 x2 (-1 : Int32) h6) gm_X4_34 (by decide) (e_6 E _) rfl rfl hl.1 (rmL_ok (by decide) (by decide)) (Nat.le_of_ble_eq_true rfl) rfl dX4_find_16) (fun H locs hH => ?_)
  clear h6
  refine lv_iload_n hx hb dX4_find_19 rfl (lv_at hl 2 rfl) ?_
  refine lv_iload hx hb dX4_find_20 (lv_at hl 4 rfl) ?_
  obtain ⟨r10, S8, h9, hf⟩ := cal_g hf
  refine go_i hH (run_S X hH (rest := []) (c_X4_hasLetters N S5 x2 x4 h9) gm_X4_38 rfl hl.1 (rmL_ok (by decide) (by decide)) (Nat.le_of_ble_eq_true rfl) rfl dX4_find_22) (fun H locs hH => ?_)
  clear h9
  refine lv_if_eq (tgt := 30) hx hb dX4_find_25 (by decide) (fun c0 => ?_) (fun c0 => ?_)
  · replace hf := ite_t c0 hf
    refine lv_iconst (v := (nI 0)) hx hb dX4_find_30 (by decide) ?_
    refine lv_topi (fun y11 ex => ?_)
    replace hf := bnd_at ex hf
    clear ex
    refine lv_istore (lv' := [(5, .int y11), (0, .ref (bb E 6)), (1, .ref (bb E 1)), (2, .int x2), (3, .int x3), (4, .int x4)]) hx hb dX4_find_31 hl (by decide) rfl (fun ls hl => ?_)
    exact w_X4_find_33 X N N S8 x3 x4 y11 hf _ _ hH _ (lv_sub hl [1, 2, 4, 5, 0] rfl)
  · replace hf := ite_f c0 hf
    refine lv_iload_n hx hb dX4_find_28 rfl (lv_at hl 2 rfl) ?_
    exact r_iret X hH hf dX4_find_29
theorem c_X4_find {l : Launch} {E : Ev} (N : Nat) (S : St) (x2 : Int32) (x3 : Int32) (x4 : Int32) {r : Int32} {S1 : St} (hf : f_X4_find N S x2 x3 x4 = some (r, S1)) : Ct l yX4_find (.code yX4_find cX4_find 9 (some .int)) 57 E [.ref (bb E 6), .ref (bb E 1), .int x2, .int x3, .int x4] S (QI E r S1) := by
  refine Ct.of (by decide) (Nat.le_of_ble_eq_true rfl) (fun p e s m below meth c ls X hH hl => ?_)
  exact w_X4_find_0 X N S x2 x3 x4 hf _ _ hH _ hl
set_option maxRecDepth 100000 in
set_option maxHeartbeats 4000000 in
theorem w_X4_stepsTo_4 {p : Program} {l : Launch} {e : Env} {s : State} {m : MethodId} {args : Array Value} {below : List Frame} {meth : Method} {c : Code} {E : Ev} {r : Int32} {S1 : St} (X : GX p s m meth c args cX4_stepsTo 4 (some .int) RX4 E) (N : Nat) : ∀ (n : Nat) (S : St) (x2 : Int32) (x3 : Int32), f_X4_stepsTo_4 N n S x2 x3 = some (r, S1) → ∀ (H : Heap) (locs : List Loc), HH E S s H locs → ∀ ls : Array Slot, lv_has ls 4 [(0, .ref (bb E 6)), (2, .int x2), (3, .int x3)] → W p l e (rmL 2) s m args below meth c H locs 0 0 (MQ below (QI E r S1 s.heap.size) args s 0 0 (AA E s.heap.size)) (F0 m 4 ls []) := by
  have hx := X.1
  have hb := X.2.1
  intro n
  induction n with
  | zero =>
    intro S x2 x3 hf
    cases hf
  | succ n ih =>
    intro S x2 x3 hf H locs hH ls hl
    rw [f_X4_stepsTo_4] at hf
    refine lv_iload_n hx hb dX4_stepsTo_4 rfl (lv_at hl 2 rfl) ?_
    obtain ⟨r3, S1, h2, hf⟩ := cal_g hf
    refine go_i hH (run_S X hH (rest := []) (c_X1_isLine N S x3 h2) gm_X4_52 rfl hl.1 (rmL_ok (by decide) (by decide)) (Nat.le_of_ble_eq_true rfl) rfl dX4_stepsTo_5) (fun H locs hH => ?_)
    clear h2
    refine lv_if_eq (tgt := 44) hx hb dX4_stepsTo_8 (by decide) (fun c0 => ?_) (fun c0 => ?_)
    · replace hf := ite_t c0 hf
      refine lv_iload_n hx hb dX4_stepsTo_44 rfl (lv_at hl 1 rfl) ?_
      exact r_iret X hH hf dX4_stepsTo_45
    · replace hf := ite_f c0 hf
      refine lv_aload_n hx hb dX4_stepsTo_11 rfl (lv_at hl 0 rfl) ?_
      refine fg_X4_17 X hH dX4_stepsTo_12 ?_
      refine lv_iload_n hx hb dX4_stepsTo_15 rfl (lv_at hl 2 rfl) ?_
      obtain ⟨g, hf⟩ := ite_g hf
      refine r_iald X hH (a_8 E) g dX4_stepsTo_16 ?_
      refine lv_if_le (tgt := 44) hx hb dX4_stepsTo_17 (by decide) (fun c0 => ?_) (fun c0 => ?_)
      · replace hf := ite_t c0 hf
        refine lv_iload_n hx hb dX4_stepsTo_44 rfl (lv_at hl 1 rfl) ?_
        exact r_iret X hH hf dX4_stepsTo_45
      · replace hf := ite_f c0 hf
        refine lv_iload_n hx hb dX4_stepsTo_20 rfl (lv_at hl 1 rfl) ?_
        refine lv_sipush (v := (nI 7737)) hx hb dX4_stepsTo_21 (by decide) ?_
        refine lv_icmp_ge (tgt := 44) hx hb dX4_stepsTo_24 (by decide) (fun c0 => ?_) (fun c0 => ?_)
        · replace hf := ite_t c0 hf
          refine lv_iload_n hx hb dX4_stepsTo_44 rfl (lv_at hl 1 rfl) ?_
          exact r_iret X hH hf dX4_stepsTo_45
        · replace hf := ite_f c0 hf
          refine lv_aload_n hx hb dX4_stepsTo_27 rfl (lv_at hl 0 rfl) ?_
          refine fg_X4_17 X hH dX4_stepsTo_28 ?_
          refine lv_iload_n hx hb dX4_stepsTo_31 rfl (lv_at hl 2 rfl) ?_
          obtain ⟨g, hf⟩ := ite_g hf
          refine r_iald X hH (a_8 E) g dX4_stepsTo_32 ?_
          refine lv_iconst (v := (nI 1)) hx hb dX4_stepsTo_33 (by decide) ?_
          refine lv_isub hx hb dX4_stepsTo_34 ?_
          refine lv_iconst (v := (nI 4)) hx hb dX4_stepsTo_35 (by decide) ?_
          refine lv_ishr hx hb dX4_stepsTo_36 ?_
          refine lv_topi (fun y4 ex => ?_)
          replace hf := bnd_at ex hf
          clear ex
          refine lv_istore_n (lv' := [(3, .int y4), (0, .ref (bb E 6)), (2, .int x2)]) hx hb dX4_stepsTo_37 rfl hl (by decide) rfl (fun ls hl => ?_)
          obtain ⟨y5, ex, hf⟩ := bnd_go hf
          refine lv_iinc (v := y5) (lv' := [(2, .int y5), (3, .int y4), (0, .ref (bb E 6))]) hx hb dX4_stepsTo_38 hl (k := 2) rfl (by rw [ex]; rfl) (by decide) rfl (fun ls hl => ?_)
          clear ex
          refine lv_goto (tgt := 4) hx hb dX4_stepsTo_41 (by decide) ?_
          exact ih S1 y5 y4 hf _ _ hH _ (lv_sub hl [2, 0, 1] rfl)
set_option maxRecDepth 100000 in
set_option maxHeartbeats 4000000 in
theorem w_X4_stepsTo_0 {p : Program} {l : Launch} {e : Env} {s : State} {m : MethodId} {args : Array Value} {below : List Frame} {meth : Method} {c : Code} {E : Ev} {r : Int32} {S1 : St} (X : GX p s m meth c args cX4_stepsTo 4 (some .int) RX4 E) (N : Nat) : ∀ (S : St) (x1 : Int32), f_X4_stepsTo N S x1 = some (r, S1) → ∀ (H : Heap) (locs : List Loc), HH E S s H locs → ∀ ls : Array Slot, lv_has ls 4 [(0, .ref (bb E 6)), (1, .int x1)] → W p l e (rmL 2) s m args below meth c H locs 0 0 (MQ below (QI E r S1 s.heap.size) args s 0 0 (AA E s.heap.size)) (F0 m 0 ls []) := by
  have hx := X.1
  have hb := X.2.1
  intro S x1 hf H locs hH ls hl
  rw [f_X4_stepsTo] at hf
  refine lv_iconst (v := (nI 0)) hx hb dX4_stepsTo_0 (by decide) ?_
  refine lv_topi (fun y1 ex => ?_)
  replace hf := bnd_at ex hf
  clear ex
  refine lv_istore_n (lv' := [(2, .int y1), (0, .ref (bb E 6)), (1, .int x1)]) hx hb dX4_stepsTo_1 rfl hl (by decide) rfl (fun ls hl => ?_)
  refine lv_iload_n hx hb dX4_stepsTo_2 rfl (lv_at hl 2 rfl) ?_
  refine lv_istore_n (lv' := [(3, .int x1), (2, .int y1), (0, .ref (bb E 6)), (1, .int x1)]) hx hb dX4_stepsTo_3 rfl hl (by decide) rfl (fun ls hl => ?_)
  exact w_X4_stepsTo_4 X N N S y1 x1 hf _ _ hH _ (lv_sub hl [2, 1, 0] rfl)
theorem c_X4_stepsTo {l : Launch} {E : Ev} (N : Nat) (S : St) (x1 : Int32) {r : Int32} {S1 : St} (hf : f_X4_stepsTo N S x1 = some (r, S1)) : Ct l yX4_stepsTo (.code yX4_stepsTo cX4_stepsTo 4 (some .int)) 2 E [.ref (bb E 6), .int x1] S (QI E r S1) := by
  refine Ct.of (by decide) (Nat.le_of_ble_eq_true rfl) (fun p e s m below meth c ls X hH hl => ?_)
  exact w_X4_stepsTo_0 X N S x1 hf _ _ hH _ hl
set_option maxRecDepth 100000 in
set_option maxHeartbeats 4000000 in
theorem w_X4_keyTo_11 {p : Program} {l : Launch} {e : Env} {s : State} {m : MethodId} {args : Array Value} {below : List Frame} {meth : Method} {c : Code} {E : Ev} {r : Int32} {S1 : St} (X : GX p s m meth c args cX4_keyTo 6 (some .int) RX4 E) (N : Nat) : ∀ (n : Nat) (S : St) (x2 : Int32) (x3 : Int32) (x4 : Int32), f_X4_keyTo_11 N n S x2 x3 x4 = some (r, S1) → ∀ (H : Heap) (locs : List Loc), HH E S s H locs → ∀ ls : Array Slot, lv_has ls 6 [(0, .ref (bb E 6)), (2, .int x2), (3, .int x3), (4, .int x4)] → W p l e (rmL 3) s m args below meth c H locs 0 0 (MQ below (QI E r S1 s.heap.size) args s 0 0 (AA E s.heap.size)) (F0 m 11 ls []) := by
  have hx := X.1
  have hb := X.2.1
  intro n
  induction n with
  | zero =>
    intro S x2 x3 x4 hf
    cases hf
  | succ n ih =>
    intro S x2 x3 x4 hf H locs hH ls hl
    rw [f_X4_keyTo_11] at hf
    refine lv_iload hx hb dX4_keyTo_11 (lv_at hl 3 rfl) ?_
    refine lv_if_lt (tgt := 56) hx hb dX4_keyTo_13 (by decide) (fun c0 => ?_) (fun c0 => ?_)
    · replace hf := ite_t c0 hf
      refine lv_bipush (v := (-9 : Int32)) hx hb dX4_keyTo_56 (by decide) ?_
      exact r_iret X hH hf dX4_keyTo_58
    · replace hf := ite_f c0 hf
      refine lv_iload_n hx hb dX4_keyTo_16 rfl (lv_at hl 2 rfl) ?_
      obtain ⟨r3, S1, h2, hf⟩ := cal_g hf
      refine go_i hH (run_S X hH (rest := []) (c_X1_isLine N S x3 h2) gm_X4_52 rfl hl.1 (rmL_ok (by decide) (by decide)) (Nat.le_of_ble_eq_true rfl) rfl dX4_keyTo_17) (fun H locs hH => ?_)
      clear h2
      refine lv_if_eq (tgt := 56) hx hb dX4_keyTo_20 (by decide) (fun c0 => ?_) (fun c0 => ?_)
      · replace hf := ite_t c0 hf
        refine lv_bipush (v := (-9 : Int32)) hx hb dX4_keyTo_56 (by decide) ?_
        exact r_iret X hH hf dX4_keyTo_58
      · replace hf := ite_f c0 hf
        refine lv_aload_n hx hb dX4_keyTo_23 rfl (lv_at hl 0 rfl) ?_
        refine fg_X4_17 X hH dX4_keyTo_24 ?_
        refine lv_iload_n hx hb dX4_keyTo_27 rfl (lv_at hl 2 rfl) ?_
        obtain ⟨g, hf⟩ := ite_g hf
        refine r_iald X hH (a_8 E) g dX4_keyTo_28 ?_
        refine lv_iconst (v := (nI 1)) hx hb dX4_keyTo_29 (by decide) ?_
        refine lv_isub hx hb dX4_keyTo_30 ?_
        refine lv_topi (fun y4 ex => ?_)
        replace hf := bnd_at ex hf
        clear ex
        refine lv_istore (lv' := [(5, .int y4), (0, .ref (bb E 6)), (2, .int x2), (3, .int x3), (4, .int x4)]) hx hb dX4_keyTo_31 hl (by decide) rfl (fun ls hl => ?_)
        refine lv_iload hx hb dX4_keyTo_33 (lv_at hl 4 rfl) ?_
        refine lv_iload_n hx hb dX4_keyTo_35 rfl (lv_at hl 2 rfl) ?_
        refine lv_icmp_ne (tgt := 45) hx hb dX4_keyTo_36 (by decide) (fun c0 => ?_) (fun c0 => ?_)
        · replace hf := ite_f c0 hf
          refine lv_iload hx hb dX4_keyTo_45 (lv_at hl 0 rfl) ?_
          refine lv_iconst (v := (nI 4)) hx hb dX4_keyTo_47 (by decide) ?_
          refine lv_ishr hx hb dX4_keyTo_48 ?_
          refine lv_topi (fun y5 ex => ?_)
          replace hf := bnd_at ex hf
          clear ex
          refine lv_istore_n (lv' := [(3, .int y5), (5, .int y4), (0, .ref (bb E 6)), (2, .int x2), (4, .int x4)]) hx hb dX4_keyTo_49 rfl hl (by decide) rfl (fun ls hl => ?_)
          obtain ⟨y6, ex, hf⟩ := bnd_go hf
          refine lv_iinc (v := y6) (lv' := [(4, .int y6), (3, .int y5), (5, .int y4), (0, .ref (bb E 6)), (2, .int x2)]) hx hb dX4_keyTo_50 hl (k := 4) rfl (by rw [ex]; rfl) (by decide) rfl (fun ls hl => ?_)
          clear ex
          refine lv_goto (tgt := 11) hx hb dX4_keyTo_53 (by decide) ?_
          exact ih S1 x2 y5 y6 hf _ _ hH _ (lv_sub hl [3, 4, 1, 0] rfl)
        · replace hf := ite_t c0 hf
          refine lv_iload hx hb dX4_keyTo_39 (lv_at hl 0 rfl) ?_
          refine lv_bipush (v := (nI 15)) hx hb dX4_keyTo_41 (by decide) ?_
          refine lv_iand hx hb dX4_keyTo_43 ?_
          exact r_iret X hH hf dX4_keyTo_44
set_option maxRecDepth 100000 in
set_option maxHeartbeats 4000000 in
theorem w_X4_keyTo_0 {p : Program} {l : Launch} {e : Env} {s : State} {m : MethodId} {args : Array Value} {below : List Frame} {meth : Method} {c : Code} {E : Ev} {r : Int32} {S1 : St} (X : GX p s m meth c args cX4_keyTo 6 (some .int) RX4 E) (N : Nat) : ∀ (S : St) (x1 : Int32) (x2 : Int32), f_X4_keyTo N S x1 x2 = some (r, S1) → ∀ (H : Heap) (locs : List Loc), HH E S s H locs → ∀ ls : Array Slot, lv_has ls 6 [(0, .ref (bb E 6)), (1, .int x1), (2, .int x2)] → W p l e (rmL 3) s m args below meth c H locs 0 0 (MQ below (QI E r S1 s.heap.size) args s 0 0 (AA E s.heap.size)) (F0 m 0 ls []) := by
  have hx := X.1
  have hb := X.2.1
  intro S x1 x2 hf H locs hH ls hl
  rw [f_X4_keyTo] at hf
  refine lv_iload_n hx hb dX4_keyTo_0 rfl (lv_at hl 1 rfl) ?_
  refine lv_istore_n (lv' := [(3, .int x1), (0, .ref (bb E 6)), (1, .int x1), (2, .int x2)]) hx hb dX4_keyTo_1 rfl hl (by decide) rfl (fun ls hl => ?_)
  refine lv_aload_n hx hb dX4_keyTo_2 rfl (lv_at hl 1 rfl) ?_
  refine lv_iload_n hx hb dX4_keyTo_3 rfl (lv_at hl 2 rfl) ?_
  obtain ⟨r3, S1, h2, hf⟩ := cal_g hf
  refine go_i hH (run_V X hH (rest := []) (c_X4_stepsTo N S x1 h2) gm_X4_59 (by decide) (e_6 E _) rfl rfl hl.1 (rmL_ok (by decide) (by decide)) (Nat.le_of_ble_eq_true rfl) rfl dX4_keyTo_4) (fun H locs hH => ?_)
  clear h2
  refine lv_iconst (v := (nI 1)) hx hb dX4_keyTo_7 (by decide) ?_
  refine lv_isub hx hb dX4_keyTo_8 ?_
  refine lv_topi (fun y4 ex => ?_)
  replace hf := bnd_at ex hf
  clear ex
  refine lv_istore (lv' := [(4, .int y4), (3, .int x1), (0, .ref (bb E 6)), (1, .int x1), (2, .int x2)]) hx hb dX4_keyTo_9 hl (by decide) rfl (fun ls hl => ?_)
  exact w_X4_keyTo_11 X N N S1 x2 x1 y4 hf _ _ hH _ (lv_sub hl [2, 4, 1, 0] rfl)
theorem c_X4_keyTo {l : Launch} {E : Ev} (N : Nat) (S : St) (x1 : Int32) (x2 : Int32) {r : Int32} {S1 : St} (hf : f_X4_keyTo N S x1 x2 = some (r, S1)) : Ct l yX4_keyTo (.code yX4_keyTo cX4_keyTo 6 (some .int)) 3 E [.ref (bb E 6), .int x1, .int x2] S (QI E r S1) := by
  refine Ct.of (by decide) (Nat.le_of_ble_eq_true rfl) (fun p e s m below meth c ls X hH hl => ?_)
  exact w_X4_keyTo_0 X N S x1 x2 hf _ _ hH _ hl
set_option maxRecDepth 100000 in
set_option maxHeartbeats 4000000 in
theorem w_X4_reachable_0 {p : Program} {l : Launch} {e : Env} {s : State} {m : MethodId} {args : Array Value} {below : List Frame} {meth : Method} {c : Code} {E : Ev} {r : Int32} {S1 : St} (X : GX p s m meth c args cX4_reachable 4 (some .int) RX4 E) (N : Nat) : ∀ (S : St) (x2 : Int32) (x3 : Int32), f_X4_reachable N S x2 x3 = some (r, S1) → ∀ (H : Heap) (locs : List Loc), HH E S s H locs → ∀ ls : Array Slot, lv_has ls 4 [(0, .ref (bb E 6)), (1, .ref (bb E 1)), (2, .int x2), (3, .int x3)] → W p l e (rmL 58) s m args below meth c H locs 0 0 (MQ below (QI E r S1 s.heap.size) args s 0 0 (AA E s.heap.size)) (F0 m 0 ls []) := by
  have hx := X.1
  have hb := X.2.1
  intro S x2 x3 hf H locs hH ls hl
  rw [f_X4_reachable] at hf
  refine lv_aload_n hx hb dX4_reachable_0 rfl (lv_at hl 0 rfl) ?_
  refine lv_aload_n hx hb dX4_reachable_1 rfl (lv_at hl 1 rfl) ?_
  refine lv_iload_n hx hb dX4_reachable_2 rfl (lv_at hl 2 rfl) ?_
  refine lv_iload_n hx hb dX4_reachable_3 rfl (lv_at hl 3 rfl) ?_
  refine lv_bipush (v := (-9 : Int32)) hx hb dX4_reachable_4 (by decide) ?_
  obtain ⟨r3, S1, h2, hf⟩ := cal_g hf
  refine go_i hH (run_V X hH (rest := []) (c_X4_find N S x2 x3 (-9 : Int32) h2) gm_X4_20 (by decide) (e_6 E _) rfl rfl hl.1 (rmL_ok (by decide) (by decide)) (Nat.le_of_ble_eq_true rfl) rfl dX4_reachable_6) (fun H locs hH => ?_)
  clear h2
  refine lv_pop hx hb dX4_reachable_9 rfl ?_
  refine lv_aload_n hx hb dX4_reachable_10 rfl (lv_at hl 0 rfl) ?_
  refine fg_X4_24 X hH dX4_reachable_11 ?_
  exact r_iret X hH hf dX4_reachable_14
theorem c_X4_reachable {l : Launch} {E : Ev} (N : Nat) (S : St) (x2 : Int32) (x3 : Int32) {r : Int32} {S1 : St} (hf : f_X4_reachable N S x2 x3 = some (r, S1)) : Ct l yX4_reachable (.code yX4_reachable cX4_reachable 4 (some .int)) 58 E [.ref (bb E 6), .ref (bb E 1), .int x2, .int x3] S (QI E r S1) := by
  refine Ct.of (by decide) (Nat.le_of_ble_eq_true rfl) (fun p e s m below meth c ls X hH hl => ?_)
  exact w_X4_reachable_0 X N S x2 x3 hf _ _ hH _ hl
set_option maxRecDepth 100000 in
set_option maxHeartbeats 4000000 in
theorem w_X4_round_0 {p : Program} {l : Launch} {e : Env} {s : State} {m : MethodId} {args : Array Value} {below : List Frame} {meth : Method} {c : Code} {E : Ev} {r : Int32} {S1 : St} (X : GX p s m meth c args cX4_round 5 (some .int) RX4 E) (N : Nat) : ∀ (S : St) (x2 : Int32) (x3 : Int32), f_X4_round N S x2 x3 = some (r, S1) → ∀ (H : Heap) (locs : List Loc), HH E S s H locs → ∀ ls : Array Slot, lv_has ls 5 [(0, .ref (bb E 6)), (1, .ref (bb E 1)), (2, .int x2), (3, .int x3)] → W p l e (rmL 58) s m args below meth c H locs 0 0 (MQ below (QI E r S1 s.heap.size) args s 0 0 (AA E s.heap.size)) (F0 m 0 ls []) := by
  have hx := X.1
  have hb := X.2.1
  intro S x2 x3 hf H locs hH ls hl
  rw [f_X4_round] at hf
  refine lv_aload_n hx hb dX4_round_0 rfl (lv_at hl 0 rfl) ?_
  refine lv_aload_n hx hb dX4_round_1 rfl (lv_at hl 1 rfl) ?_
  refine lv_iload_n hx hb dX4_round_2 rfl (lv_at hl 2 rfl) ?_
  refine lv_iload_n hx hb dX4_round_3 rfl (lv_at hl 3 rfl) ?_
  obtain ⟨r3, S1, h2, hf⟩ := cal_g hf
  refine go_i hH (run_V X hH (rest := []) (c_X4_playOn N S x2 x3 h2) gm_X4_63 (by decide) (e_6 E _) rfl rfl hl.1 (rmL_ok (by decide) (by decide)) (Nat.le_of_ble_eq_true rfl) rfl dX4_round_4) (fun H locs hH => ?_)
  clear h2
  refine lv_istore (lv' := [(4, .int r3), (0, .ref (bb E 6)), (1, .ref (bb E 1)), (2, .int x2), (3, .int x3)]) hx hb dX4_round_7 hl (by decide) rfl (fun ls hl => ?_)
  refine lv_aload_n hx hb dX4_round_9 rfl (lv_at hl 1 rfl) ?_
  refine fg_X4_24 X hH dX4_round_10 ?_
  refine lv_aload_n hx hb dX4_round_13 rfl (lv_at hl 1 rfl) ?_
  refine lv_iload hx hb dX4_round_14 (lv_at hl 0 rfl) ?_
  obtain ⟨r6, S4, h5, hf⟩ := cal_g hf
  refine go_i hH (run_V X hH (rest := [.int (S1 6 2)]) (c_X4_playsTo N S1 r3 h5) gm_X4_67 (by decide) (e_6 E _) rfl rfl hl.1 (rmL_ok (by decide) (by decide)) (Nat.le_of_ble_eq_true rfl) rfl dX4_round_16) (fun H locs hH => ?_)
  clear h5
  refine lv_isub hx hb dX4_round_19 ?_
  exact r_iret X hH hf dX4_round_20
theorem c_X4_round {l : Launch} {E : Ev} (N : Nat) (S : St) (x2 : Int32) (x3 : Int32) {r : Int32} {S1 : St} (hf : f_X4_round N S x2 x3 = some (r, S1)) : Ct l yX4_round (.code yX4_round cX4_round 5 (some .int)) 58 E [.ref (bb E 6), .ref (bb E 1), .int x2, .int x3] S (QI E r S1) := by
  refine Ct.of (by decide) (Nat.le_of_ble_eq_true rfl) (fun p e s m below meth c ls X hH hl => ?_)
  exact w_X4_round_0 X N S x2 x3 hf _ _ hH _ hl
