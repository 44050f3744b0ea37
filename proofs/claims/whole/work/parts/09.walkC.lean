set_option maxRecDepth 100000 in
set_option maxHeartbeats 4000000 in
theorem w_X6_again_25 {p : Program} {l : Launch} {e : Env} {s : State} {m : MethodId} {args : Array Value} {below : List Frame} {meth : Method} {c : Code} {E : Ev} {r : Int32} {S1 : St} (X : GX p s m meth c args cX6_again 3 (some .int) RX6 E) (N : Nat) : ∀ (S : St) (x1 : Int32) (x2 : Int32), f_X6_again_25 N S x1 x2 = some (r, S1) → ∀ (H : Heap) (locs : List Loc), HH E S s H locs → ∀ ls : Array Slot, lv_has ls 3 [(0, .ref (bb E 0)), (1, .int x1), (2, .int x2)] → W p l e (rmL 59) s m args below meth c H locs 0 0 (MQ below (QI E r S1 s.heap.size) args s 0 0 (AA E s.heap.size)) (F0 m 25 ls []) := by
  have hx := X.1
  have hb := X.2.1
  intro S x1 x2 hf H locs hH ls hl
  rw [f_X6_again_25] at hf
  refine lv_iload_n hx hb dX6_again_25 rfl (lv_at hl 2 rfl) ?_
  refine lv_if_ne (tgt := 48) hx hb dX6_again_26 (by decide) (fun c0 => ?_) (fun c0 => ?_)
  · replace hf := ite_f c0 hf
    refine lv_aload_n hx hb dX6_again_48 rfl (lv_at hl 0 rfl) ?_
    refine fg_X6_28 X hH dX6_again_49 ?_
    refine lv_aload_n hx hb dX6_again_52 rfl (lv_at hl 0 rfl) ?_
    refine fg_X6_12 X hH dX6_again_53 ?_
    refine lv_aload_n hx hb dX6_again_56 rfl (lv_at hl 0 rfl) ?_
    refine fg_X6_48 X hH dX6_again_57 ?_
    refine lv_iload_n hx hb dX6_again_60 rfl (lv_at hl 1 rfl) ?_
    obtain ⟨r3, S1, h2, hf⟩ := cal_g hf
    refine go_i hH (run_V X hH (rest := []) (c_X4_round N S (S 0 7) x1 h2) gm_X6_179 (by decide) (e_6 E _) rfl rfl hl.1 (rmL_ok (by decide) (by decide)) (Nat.le_of_ble_eq_true rfl) rfl dX6_again_61) (fun H locs hH => ?_)
    clear h2
    exact r_iret X hH hf dX6_again_64
  · replace hf := ite_t c0 hf
    refine lv_aload_n hx hb dX6_again_29 rfl (lv_at hl 0 rfl) ?_
    refine fg_X6_28 X hH dX6_again_30 ?_
    refine lv_aload_n hx hb dX6_again_33 rfl (lv_at hl 0 rfl) ?_
    refine fg_X6_12 X hH dX6_again_34 ?_
    refine lv_aload_n hx hb dX6_again_37 rfl (lv_at hl 0 rfl) ?_
    refine fg_X6_48 X hH dX6_again_38 ?_
    refine lv_iload_n hx hb dX6_again_41 rfl (lv_at hl 1 rfl) ?_
    obtain ⟨r6, S4, h5, hf⟩ := cal_g hf
    refine go_i hH (run_V X hH (rest := []) (c_X4_aheadOfRound N S (S 0 7) x1 h5) gm_X6_175 (by decide) (e_6 E _) rfl rfl hl.1 (rmL_ok (by decide) (by decide)) (Nat.le_of_ble_eq_true rfl) rfl dX6_again_42) (fun H locs hH => ?_)
    clear h5
    refine lv_goto (tgt := 64) hx hb dX6_again_45 (by decide) ?_
    exact r_iret X hH hf dX6_again_64
set_option maxRecDepth 100000 in
set_option maxHeartbeats 4000000 in
theorem w_X6_again_0 {p : Program} {l : Launch} {e : Env} {s : State} {m : MethodId} {args : Array Value} {below : List Frame} {meth : Method} {c : Code} {E : Ev} {r : Int32} {S1 : St} (X : GX p s m meth c args cX6_again 3 (some .int) RX6 E) (N : Nat) : ∀ (S : St) (x1 : Int32) (x2 : Int32), f_X6_again N S x1 x2 = some (r, S1) → ∀ (H : Heap) (locs : List Loc), HH E S s H locs → ∀ ls : Array Slot, lv_has ls 3 [(0, .ref (bb E 0)), (1, .int x1), (2, .int x2)] → W p l e (rmL 59) s m args below meth c H locs 0 0 (MQ below (QI E r S1 s.heap.size) args s 0 0 (AA E s.heap.size)) (F0 m 0 ls []) := by
  have hx := X.1
  have hb := X.2.1
  intro S x1 x2 hf H locs hH ls hl
  rw [f_X6_again] at hf
  refine lv_aload_n hx hb dX6_again_0 rfl (lv_at hl 0 rfl) ?_
  refine fg_X6_12 X hH dX6_again_1 ?_
  refine lv_iload_n hx hb dX6_again_4 rfl (lv_at hl 1 rfl) ?_
  obtain ⟨r3, S1, h2, hf⟩ := cal_g hf
  refine go_q hH (run_V X hH (rest := []) (c_X0_macroOf N S x1 h2) gm_X6_88 (by decide) (e_1 E _) rfl rfl hl.1 (rmL_ok (by decide) (by decide)) (Nat.le_of_ble_eq_true rfl) rfl dX6_again_5) (fun H locs hH => ?_)
  clear h2
  cases r3 with
  | none =>
    replace hf := opt_n hf
    refine lv_ifnonnullN hx hb dX6_again_8 ?_
    refine lv_iconst (v := (-1 : Int32)) hx hb dX6_again_11 (by decide) ?_
    exact r_iret X hH hf dX6_again_12
  | some j4 =>
    replace hf := opt_s hf
    obtain ⟨hj4, hf⟩ := ite_g hf
    refine lv_ifnonnull (tgt := 13) hx hb dX6_again_8 (by decide) ?_
    refine lv_iload_n hx hb dX6_again_13 rfl (lv_at hl 2 rfl) ?_
    refine lv_if_eq (tgt := 25) hx hb dX6_again_14 (by decide) (fun c0 => ?_) (fun c0 => ?_)
    · replace hf := ite_t c0 hf
      exact w_X6_again_25 X N S1 x1 x2 hf _ _ hH _ (lv_sub hl [0, 1, 2] rfl)
    · replace hf := ite_f c0 hf
      refine lv_iload_n hx hb dX6_again_17 rfl (lv_at hl 2 rfl) ?_
      refine lv_iconst (v := (nI 1)) hx hb dX6_again_18 (by decide) ?_
      refine lv_icmp_eq (tgt := 25) hx hb dX6_again_19 (by decide) (fun c0 => ?_) (fun c0 => ?_)
      · replace hf := ite_t c0 hf
        exact w_X6_again_25 X N S1 x1 x2 hf _ _ hH _ (lv_sub hl [0, 1, 2] rfl)
      · replace hf := ite_f c0 hf
        refine lv_bipush (v := (-2 : Int32)) hx hb dX6_again_22 (by decide) ?_
        exact r_iret X hH hf dX6_again_24
theorem c_X6_again {l : Launch} {E : Ev} (N : Nat) (S : St) (x1 : Int32) (x2 : Int32) {r : Int32} {S1 : St} (hf : f_X6_again N S x1 x2 = some (r, S1)) : Ct l yX6_again (.code yX6_again cX6_again 3 (some .int)) 59 E [.ref (bb E 0), .int x1, .int x2] S (QI E r S1) := by
  refine Ct.of (by decide) (Nat.le_of_ble_eq_true rfl) (fun p e s m below meth c ls X hH hl => ?_)
  exact w_X6_again_0 X N S x1 x2 hf _ _ hH _ hl
set_option maxRecDepth 100000 in
set_option maxHeartbeats 4000000 in
theorem w_X6_meet_0 {p : Program} {l : Launch} {e : Env} {s : State} {m : MethodId} {args : Array Value} {below : List Frame} {meth : Method} {c : Code} {E : Ev} {r : Int32} {S1 : St} (X : GX p s m meth c args cX6_meet 2 (some .int) RX6 E) (N : Nat) : ∀ (S : St) (x1 : Int32), f_X6_meet N S x1 = some (r, S1) → ∀ (H : Heap) (locs : List Loc), HH E S s H locs → ∀ ls : Array Slot, lv_has ls 2 [(0, .ref (bb E 0)), (1, .int x1)] → W p l e (rmL 1) s m args below meth c H locs 0 0 (MQ below (QI E r S1 s.heap.size) args s 0 0 (AA E s.heap.size)) (F0 m 0 ls []) := by
  have hx := X.1
  have hb := X.2.1
  intro S x1 hf H locs hH ls hl
  rw [f_X6_meet] at hf
  refine lv_aload_n hx hb dX6_meet_0 rfl (lv_at hl 0 rfl) ?_
  refine lv_iload_n hx hb dX6_meet_1 rfl (lv_at hl 1 rfl) ?_
  refine fp_X6_52 X hH dX6_meet_2 (fun H locs hH => ?_)
  obtain ⟨S1, ex, hf⟩ := bnd_go hf
  replace hH := HH_eq ex hH
  clear ex
  refine lv_bipush (v := (-10 : Int32)) hx hb dX6_meet_5 (by decide) ?_
  refine lv_iload_n hx hb dX6_meet_7 rfl (lv_at hl 1 rfl) ?_
  refine lv_isub hx hb dX6_meet_8 ?_
  exact r_iret X hH hf dX6_meet_9
theorem c_X6_meet {l : Launch} {E : Ev} (N : Nat) (S : St) (x1 : Int32) {r : Int32} {S1 : St} (hf : f_X6_meet N S x1 = some (r, S1)) : Ct l yX6_meet (.code yX6_meet cX6_meet 2 (some .int)) 1 E [.ref (bb E 0), .int x1] S (QI E r S1) := by
  refine Ct.of (by decide) (Nat.le_of_ble_eq_true rfl) (fun p e s m below meth c ls X hH hl => ?_)
  exact w_X6_meet_0 X N S x1 hf _ _ hH _ hl
set_option maxRecDepth 100000 in
set_option maxHeartbeats 4000000 in
theorem w_X6_as_0 {p : Program} {l : Launch} {e : Env} {s : State} {m : MethodId} {args : Array Value} {below : List Frame} {meth : Method} {c : Code} {E : Ev} {r : Int32} {S1 : St} (X : GX p s m meth c args cX6_as 4 (some .int) RX6 E) (N : Nat) : ∀ (S : St) (x1 : Int32) (x2 : Int32), f_X6_as N S x1 x2 = some (r, S1) → ∀ (H : Heap) (locs : List Loc), HH E S s H locs → ∀ ls : Array Slot, lv_has ls 4 [(0, .ref (bb E 0)), (1, .int x1), (2, .int x2)] → W p l e (rmL 2) s m args below meth c H locs 0 0 (MQ below (QI E r S1 s.heap.size) args s 0 0 (AA E s.heap.size)) (F0 m 0 ls []) := by
  have hx := X.1
  have hb := X.2.1
  intro S x1 x2 hf H locs hH ls hl
  rw [f_X6_as] at hf
  refine lv_aload_n hx hb dX6_as_0 rfl (lv_at hl 0 rfl) ?_
  refine lv_iconst (v := (nI 0)) hx hb dX6_as_1 (by decide) ?_
  refine fp_X6_52 X hH dX6_as_2 (fun H locs hH => ?_)
  obtain ⟨S1, ex, hf⟩ := bnd_go hf
  replace hH := HH_eq ex hH
  clear ex
  refine lv_aload_n hx hb dX6_as_5 rfl (lv_at hl 0 rfl) ?_
  refine fg_X6_12 X hH dX6_as_6 ?_
  refine lv_iload_n hx hb dX6_as_9 rfl (lv_at hl 1 rfl) ?_
  obtain ⟨r4, S2, h3, hf⟩ := cal_g hf
  refine go_q hH (run_V X hH (rest := []) (c_X0_macroOf N S1 x1 h3) gm_X6_88 (by decide) (e_1 E _) rfl rfl hl.1 (rmL_ok (by decide) (by decide)) (Nat.le_of_ble_eq_true rfl) rfl dX6_as_10) (fun H locs hH => ?_)
  clear h3
  cases r4 with
  | none =>
    replace hf := opt_n hf
    refine lv_astore_nN (lv' := [(3, .null), (0, .ref (bb E 0)), (1, .int x1), (2, .int x2)]) hx hb dX6_as_13 rfl hl (by decide) rfl (fun ls hl => ?_)
    refine lv_aload_nN hx hb dX6_as_14 rfl (lv_at hl 0 rfl) ?_
    refine lv_ifnonnullN hx hb dX6_as_15 ?_
    refine lv_iconst (v := (-1 : Int32)) hx hb dX6_as_18 (by decide) ?_
    exact r_iret X hH hf dX6_as_19
  | some j5 =>
    replace hf := opt_s hf
    obtain ⟨hj5, hf⟩ := ite_g hf
    refine lv_astore_n (lv' := [(3, .ref (bb E (20 + j5))), (0, .ref (bb E 0)), (1, .int x1), (2, .int x2)]) hx hb dX6_as_13 rfl hl (by decide) rfl (fun ls hl => ?_)
    refine lv_aload_n hx hb dX6_as_14 rfl (lv_at hl 0 rfl) ?_
    refine lv_ifnonnull (tgt := 20) hx hb dX6_as_15 (by decide) ?_
    refine lv_iload_n hx hb dX6_as_20 rfl (lv_at hl 3 rfl) ?_
    refine lv_if_lt (tgt := 29) hx hb dX6_as_21 (by decide) (fun c0 => ?_) (fun c0 => ?_)
    · replace hf := ite_t c0 hf
      refine lv_bipush (v := (-2 : Int32)) hx hb dX6_as_29 (by decide) ?_
      exact r_iret X hH hf dX6_as_31
    · replace hf := ite_f c0 hf
      refine lv_iload_n hx hb dX6_as_24 rfl (lv_at hl 3 rfl) ?_
      refine lv_iconst (v := (nI 2)) hx hb dX6_as_25 (by decide) ?_
      refine lv_icmp_le (tgt := 32) hx hb dX6_as_26 (by decide) (fun c0 => ?_) (fun c0 => ?_)
      · replace hf := ite_t c0 hf
        refine lv_aload_n hx hb dX6_as_32 rfl (lv_at hl 0 rfl) ?_
        refine fg_X6_92 X hH hj5 dX6_as_33 ?_
        refine lv_iload_n hx hb dX6_as_36 rfl (lv_at hl 3 rfl) ?_
        refine lv_icmp_lt (tgt := 44) hx hb dX6_as_37 (by decide) (fun c0 => ?_) (fun c0 => ?_)
        · replace hf := ite_t c0 hf
          refine lv_aload_n hx hb dX6_as_44 rfl (lv_at hl 1 rfl) ?_
          refine lv_iconst (v := (nI 2)) hx hb dX6_as_45 (by decide) ?_
          obtain ⟨r8, S6, h7, hf⟩ := cal_g hf
          refine go_i hH (run_V X hH (rest := []) (c_X6_meet N S2 (nI 2) h7) gm_X6_67 (by decide) (e_0 E _) rfl rfl hl.1 (rmL_ok (by decide) (by decide)) (Nat.le_of_ble_eq_true rfl) rfl dX6_as_46) (fun H locs hH => ?_)
          clear h7
          exact r_iret X hH hf dX6_as_49
        · replace hf := ite_f c0 hf
          refine lv_iconst (v := (nI 1)) hx hb dX6_as_40 (by decide) ?_
          refine lv_goto (tgt := 49) hx hb dX6_as_41 (by decide) ?_
          exact r_iret X hH hf dX6_as_49
      · replace hf := ite_f c0 hf
        refine lv_bipush (v := (-2 : Int32)) hx hb dX6_as_29 (by decide) ?_
        exact r_iret X hH hf dX6_as_31
theorem c_X6_as {l : Launch} {E : Ev} (N : Nat) (S : St) (x1 : Int32) (x2 : Int32) {r : Int32} {S1 : St} (hf : f_X6_as N S x1 x2 = some (r, S1)) : Ct l yX6_as (.code yX6_as cX6_as 4 (some .int)) 2 E [.ref (bb E 0), .int x1, .int x2] S (QI E r S1) := by
  refine Ct.of (by decide) (Nat.le_of_ble_eq_true rfl) (fun p e s m below meth c ls X hH hl => ?_)
  exact w_X6_as_0 X N S x1 x2 hf _ _ hH _ hl
set_option maxRecDepth 100000 in
set_option maxHeartbeats 4000000 in
theorem w_X6_back_0 {p : Program} {l : Launch} {e : Env} {s : State} {m : MethodId} {args : Array Value} {below : List Frame} {meth : Method} {c : Code} {E : Ev} {r : Int32} {S1 : St} (X : GX p s m meth c args cX6_back 2 (some .int) RX6 E) (N : Nat) : ∀ (S : St) (x1 : Int32), f_X6_back N S x1 = some (r, S1) → ∀ (H : Heap) (locs : List Loc), HH E S s H locs → ∀ ls : Array Slot, lv_has ls 2 [(0, .ref (bb E 0)), (1, .int x1)] → W p l e (rmL 1) s m args below meth c H locs 0 0 (MQ below (QI E r S1 s.heap.size) args s 0 0 (AA E s.heap.size)) (F0 m 0 ls []) := by
  have hx := X.1
  have hb := X.2.1
  intro S x1 hf H locs hH ls hl
  rw [f_X6_back] at hf
  refine lv_iload_n hx hb dX6_back_0 rfl (lv_at hl 1 rfl) ?_
  refine lv_if_lt (tgt := 12) hx hb dX6_back_1 (by decide) (fun c0 => ?_) (fun c0 => ?_)
  · replace hf := ite_t c0 hf
    refine lv_bipush (v := (-2 : Int32)) hx hb dX6_back_12 (by decide) ?_
    exact r_iret X hH hf dX6_back_14
  · replace hf := ite_f c0 hf
    refine lv_iload_n hx hb dX6_back_4 rfl (lv_at hl 1 rfl) ?_
    refine lv_aload_n hx hb dX6_back_5 rfl (lv_at hl 0 rfl) ?_
    refine fg_X6_82 X hH dX6_back_6 ?_
    refine lv_icmp_le (tgt := 15) hx hb dX6_back_9 (by decide) (fun c0 => ?_) (fun c0 => ?_)
    · replace hf := ite_t c0 hf
      refine lv_aload_n hx hb dX6_back_15 rfl (lv_at hl 0 rfl) ?_
      refine lv_dup hx hb dX6_back_16 rfl ?_
      refine fg_X6_82 X hH dX6_back_17 ?_
      refine lv_iload_n hx hb dX6_back_20 rfl (lv_at hl 1 rfl) ?_
      refine lv_isub hx hb dX6_back_21 ?_
      refine fp_X6_82 X hH dX6_back_22 (fun H locs hH => ?_)
      obtain ⟨S1, ex, hf⟩ := bnd_go hf
      replace hH := HH_eq ex hH
      clear ex
      refine lv_aload_n hx hb dX6_back_25 rfl (lv_at hl 0 rfl) ?_
      refine fg_X6_82 X hH dX6_back_26 ?_
      exact r_iret X hH hf dX6_back_29
    · replace hf := ite_f c0 hf
      refine lv_bipush (v := (-2 : Int32)) hx hb dX6_back_12 (by decide) ?_
      exact r_iret X hH hf dX6_back_14
theorem c_X6_back {l : Launch} {E : Ev} (N : Nat) (S : St) (x1 : Int32) {r : Int32} {S1 : St} (hf : f_X6_back N S x1 = some (r, S1)) : Ct l yX6_back (.code yX6_back cX6_back 2 (some .int)) 1 E [.ref (bb E 0), .int x1] S (QI E r S1) := by
  refine Ct.of (by decide) (Nat.le_of_ble_eq_true rfl) (fun p e s m below meth c ls X hH hl => ?_)
  exact w_X6_back_0 X N S x1 hf _ _ hH _ hl
set_option maxRecDepth 100000 in
set_option maxHeartbeats 4000000 in
theorem w_X6_leave_0 {p : Program} {l : Launch} {e : Env} {s : State} {m : MethodId} {args : Array Value} {below : List Frame} {meth : Method} {c : Code} {E : Ev} {r : Unit} {S1 : St} (X : GX p s m meth c args cX6_leave 2 none RX6 E) (N : Nat) : ∀ (S : St) (x1 : Int32), f_X6_leave N S x1 = some (r, S1) → ∀ (H : Heap) (locs : List Loc), HH E S s H locs → ∀ ls : Array Slot, lv_has ls 2 [(0, .ref (bb E 0)), (1, .int x1)] → W p l e (rmL 1) s m args below meth c H locs 0 0 (MQ below (QV E r S1 s.heap.size) args s 0 0 (AA E s.heap.size)) (F0 m 0 ls []) := by
  have hx := X.1
  have hb := X.2.1
  intro S x1 hf H locs hH ls hl
  rw [f_X6_leave] at hf
  refine lv_aload_n hx hb dX6_leave_0 rfl (lv_at hl 0 rfl) ?_
  refine lv_bipush (v := (nI 31)) hx hb dX6_leave_1 (by decide) ?_
  refine lv_aload_n hx hb dX6_leave_3 rfl (lv_at hl 0 rfl) ?_
  refine fg_X6_234 X hH dX6_leave_4 ?_
  refine lv_imul hx hb dX6_leave_7 ?_
  refine lv_iload_n hx hb dX6_leave_8 rfl (lv_at hl 1 rfl) ?_
  refine lv_iadd hx hb dX6_leave_9 ?_
  refine fp_X6_234 X hH dX6_leave_10 (fun H locs hH => ?_)
  obtain ⟨S1, ex, hf⟩ := bnd_go hf
  replace hH := HH_eq ex hH
  clear ex
  exact r_vret X hH hf dX6_leave_13
theorem c_X6_leave {l : Launch} {E : Ev} (N : Nat) (S : St) (x1 : Int32) {r : Unit} {S1 : St} (hf : f_X6_leave N S x1 = some (r, S1)) : Ct l yX6_leave (.code yX6_leave cX6_leave 2 none) 1 E [.ref (bb E 0), .int x1] S (QV E r S1) := by
  refine Ct.of (by decide) (Nat.le_of_ble_eq_true rfl) (fun p e s m below meth c ls X hH hl => ?_)
  exact w_X6_leave_0 X N S x1 hf _ _ hH _ hl
set_option maxRecDepth 100000 in
set_option maxHeartbeats 4000000 in
theorem w_X6_plainTells_0 {p : Program} {l : Launch} {e : Env} {s : State} {m : MethodId} {args : Array Value} {below : List Frame} {meth : Method} {c : Code} {E : Ev} {r : Int32} {S1 : St} (X : GX p s m meth c args cX6_plainTells 2 (some .int) RX6 E) (N : Nat) : ∀ (S : St) (j1 : Nat) (hj1 : j1 < 6), f_X6_plainTells N S j1 = some (r, S1) → ∀ (H : Heap) (locs : List Loc), HH E S s H locs → ∀ ls : Array Slot, lv_has ls 2 [(0, .ref (bb E 0)), (1, .ref (bb E (20 + j1)))] → W p l e (rmL 2) s m args below meth c H locs 0 0 (MQ below (QI E r S1 s.heap.size) args s 0 0 (AA E s.heap.size)) (F0 m 0 ls []) := by
  have hx := X.1
  have hb := X.2.1
  intro S j1 hj1 hf H locs hH ls hl
  rw [f_X6_plainTells] at hf
  refine lv_aload_n hx hb dX6_plainTells_0 rfl (lv_at hl 0 rfl) ?_
  refine lv_iconst (v := (nI 1)) hx hb dX6_plainTells_1 (by decide) ?_
  obtain ⟨_, S1, h2, hf⟩ := cal_g hf
  refine go_v hH (run_V X hH (rest := []) (c_X6_leave N S (nI 1) h2) gm_X6_230 (by decide) (e_0 E _) rfl rfl hl.1 (rmL_ok (by decide) (by decide)) (Nat.le_of_ble_eq_true rfl) rfl dX6_plainTells_2) (fun H locs hH => ?_)
  clear h2
  refine lv_aload_n hx hb dX6_plainTells_5 rfl (lv_at hl 1 rfl) ?_
  refine fg_X6_97 X hH hj1 dX6_plainTells_6 ?_
  exact r_iret X hH hf dX6_plainTells_9
theorem c_X6_plainTells {l : Launch} {E : Ev} (N : Nat) (S : St) (j1 : Nat) (hj1 : j1 < 6) {r : Int32} {S1 : St} (hf : f_X6_plainTells N S j1 = some (r, S1)) : Ct l yX6_plainTells (.code yX6_plainTells cX6_plainTells 2 (some .int)) 2 E [.ref (bb E 0), .ref (bb E (20 + j1))] S (QI E r S1) := by
  refine Ct.of (by decide) (Nat.le_of_ble_eq_true rfl) (fun p e s m below meth c ls X hH hl => ?_)
  exact w_X6_plainTells_0 X N S j1 hj1 hf _ _ hH _ hl
set_option maxRecDepth 100000 in
set_option maxHeartbeats 4000000 in
theorem w_X6_broadTells_0 {p : Program} {l : Launch} {e : Env} {s : State} {m : MethodId} {args : Array Value} {below : List Frame} {meth : Method} {c : Code} {E : Ev} {r : Int32} {S1 : St} (X : GX p s m meth c args cX6_broadTells 2 (some .int) RX6 E) (N : Nat) : ∀ (S : St) (j1 : Nat) (hj1 : j1 < 6), f_X6_broadTells N S j1 = some (r, S1) → ∀ (H : Heap) (locs : List Loc), HH E S s H locs → ∀ ls : Array Slot, lv_has ls 2 [(0, .ref (bb E 0)), (1, .ref (bb E (20 + j1)))] → W p l e (rmL 3) s m args below meth c H locs 0 0 (MQ below (QI E r S1 s.heap.size) args s 0 0 (AA E s.heap.size)) (F0 m 0 ls []) := by
  have hx := X.1
  have hb := X.2.1
  intro S j1 hj1 hf H locs hH ls hl
  rw [f_X6_broadTells] at hf
  refine lv_aload_n hx hb dX6_broadTells_0 rfl (lv_at hl 0 rfl) ?_
  refine lv_iconst (v := (nI 2)) hx hb dX6_broadTells_1 (by decide) ?_
  obtain ⟨_, S1, h2, hf⟩ := cal_g hf
  refine go_v hH (run_V X hH (rest := []) (c_X6_leave N S (nI 2) h2) gm_X6_230 (by decide) (e_0 E _) rfl rfl hl.1 (rmL_ok (by decide) (by decide)) (Nat.le_of_ble_eq_true rfl) rfl dX6_broadTells_2) (fun H locs hH => ?_)
  clear h2
  refine lv_aload_n hx hb dX6_broadTells_5 rfl (lv_at hl 0 rfl) ?_
  refine lv_aload_n hx hb dX6_broadTells_6 rfl (lv_at hl 1 rfl) ?_
  obtain ⟨r6, S4, h5, hf⟩ := cal_g hf
  refine go_i hH (run_V X hH (rest := []) (c_X6_plainTells N S1 j1 hj1 h5) gm_X6_227 (by decide) (e_0 E _) rfl rfl hl.1 (rmL_ok (by decide) (by decide)) (Nat.le_of_ble_eq_true rfl) rfl dX6_broadTells_7) (fun H locs hH => ?_)
  clear h5
  refine lv_bipush (v := (nI 100)) hx hb dX6_broadTells_10 (by decide) ?_
  refine lv_iadd hx hb dX6_broadTells_12 ?_
  exact r_iret X hH hf dX6_broadTells_13
theorem c_X6_broadTells {l : Launch} {E : Ev} (N : Nat) (S : St) (j1 : Nat) (hj1 : j1 < 6) {r : Int32} {S1 : St} (hf : f_X6_broadTells N S j1 = some (r, S1)) : Ct l yX6_broadTells (.code yX6_broadTells cX6_broadTells 2 (some .int)) 3 E [.ref (bb E 0), .ref (bb E (20 + j1))] S (QI E r S1) := by
  refine Ct.of (by decide) (Nat.le_of_ble_eq_true rfl) (fun p e s m below meth c ls X hH hl => ?_)
  exact w_X6_broadTells_0 X N S j1 hj1 hf _ _ hH _ hl
set_option maxRecDepth 100000 in
set_option maxHeartbeats 4000000 in
theorem w_X6_isLane_0 {p : Program} {l : Launch} {e : Env} {s : State} {m : MethodId} {args : Array Value} {below : List Frame} {meth : Method} {c : Code} {E : Ev} {r : Int32} {S1 : St} (X : GX p s m meth c args cX6_isLane 1 (some .boolean) RX6 E) (N : Nat) : ∀ (S : St) (x0 : Int32), f_X6_isLane N S x0 = some (r, S1) → ∀ (H : Heap) (locs : List Loc), HH E S s H locs → ∀ ls : Array Slot, lv_has ls 1 [(0, .int x0)] → W p l e (rmL 1) s m args below meth c H locs 0 0 (MQ below (QI E r S1 s.heap.size) args s 0 0 (AA E s.heap.size)) (F0 m 0 ls []) := by
  have hx := X.1
  have hb := X.2.1
  intro S x0 hf H locs hH ls hl
  rw [f_X6_isLane] at hf
  refine lv_iload_n hx hb dX6_isLane_0 rfl (lv_at hl 0 rfl) ?_
  refine lv_if_lt (tgt := 13) hx hb dX6_isLane_1 (by decide) (fun c0 => ?_) (fun c0 => ?_)
  · replace hf := ite_t c0 hf
    refine lv_iconst (v := (nI 0)) hx hb dX6_isLane_13 (by decide) ?_
    exact r_zret X hH (by decide) hf dX6_isLane_14
  · replace hf := ite_f c0 hf
    refine lv_iload_n hx hb dX6_isLane_4 rfl (lv_at hl 0 rfl) ?_
    refine lv_iconst (v := (nI 2)) hx hb dX6_isLane_5 (by decide) ?_
    refine lv_icmp_gt (tgt := 13) hx hb dX6_isLane_6 (by decide) (fun c0 => ?_) (fun c0 => ?_)
    · replace hf := ite_t c0 hf
      refine lv_iconst (v := (nI 0)) hx hb dX6_isLane_13 (by decide) ?_
      exact r_zret X hH (by decide) hf dX6_isLane_14
    · replace hf := ite_f c0 hf
      refine lv_iconst (v := (nI 1)) hx hb dX6_isLane_9 (by decide) ?_
      refine lv_goto (tgt := 14) hx hb dX6_isLane_10 (by decide) ?_
      exact r_zret X hH (by decide) hf dX6_isLane_14
theorem c_X6_isLane {l : Launch} {E : Ev} (N : Nat) (S : St) (x0 : Int32) {r : Int32} {S1 : St} (hf : f_X6_isLane N S x0 = some (r, S1)) : Ct l yX6_isLane (.code yX6_isLane cX6_isLane 1 (some .boolean)) 1 E [.int x0] S (QI E r S1) := by
  refine Ct.of (by decide) (Nat.le_of_ble_eq_true rfl) (fun p e s m below meth c ls X hH hl => ?_)
  exact w_X6_isLane_0 X N S x0 hf _ _ hH _ hl
set_option maxRecDepth 100000 in
set_option maxHeartbeats 4000000 in
theorem w_X6_sheetOf_0 {p : Program} {l : Launch} {e : Env} {s : State} {m : MethodId} {args : Array Value} {below : List Frame} {meth : Method} {c : Code} {E : Ev} {r : Option Nat} {S1 : St} (X : GX p s m meth c args cX6_sheetOf 2 (some (.object "MacroKeys$Sheet")) RX6 E) (N : Nat) : ∀ (S : St) (x1 : Int32), f_X6_sheetOf N S x1 = some (r, S1) → ∀ (H : Heap) (locs : List Loc), HH E S s H locs → ∀ ls : Array Slot, lv_has ls 2 [(0, .ref (bb E 0)), (1, .int x1)] → W p l e (rmL 1) s m args below meth c H locs 0 0 (MQ below (QQ 12 E r S1 s.heap.size) args s 0 0 (AA E s.heap.size)) (F0 m 0 ls []) := by
  have hx := X.1
  have hb := X.2.1
  intro S x1 hf H locs hH ls hl
  rw [f_X6_sheetOf] at hf
  refine lv_iload_n hx hb dX6_sheetOf_0 rfl (lv_at hl 1 rfl) ?_
  refine lv_if_lt (tgt := 9) hx hb dX6_sheetOf_1 (by decide) (fun c0 => ?_) (fun c0 => ?_)
  · replace hf := ite_t c0 hf
    refine lv_null hx hb dX6_sheetOf_9 ?_
    refine lv_goto (tgt := 19) hx hb dX6_sheetOf_10 (by decide) ?_
    exact r_aret X hH (r0 := none) rfl hf dX6_sheetOf_19
  · replace hf := ite_f c0 hf
    refine lv_iload_n hx hb dX6_sheetOf_4 rfl (lv_at hl 1 rfl) ?_
    refine lv_iconst (v := (nI 4)) hx hb dX6_sheetOf_5 (by decide) ?_
    refine lv_icmp_lt (tgt := 13) hx hb dX6_sheetOf_6 (by decide) (fun c0 => ?_) (fun c0 => ?_)
    · replace hf := ite_t c0 hf
      refine lv_aload_n hx hb dX6_sheetOf_13 rfl (lv_at hl 0 rfl) ?_
      refine fg_X6_35 X hH dX6_sheetOf_14 ?_
      refine lv_iload_n hx hb dX6_sheetOf_17 rfl (lv_at hl 1 rfl) ?_
      obtain ⟨g1, hf⟩ := ite_g hf
      refine r_aald X hH (t0 := 2) (by decide) (e_9 E _) rfl g1 rfl dX6_sheetOf_18 ?_
      exact r_aret X hH (r0 := some x1.toNatClampNeg) rfl hf dX6_sheetOf_19
    · replace hf := ite_f c0 hf
      refine lv_null hx hb dX6_sheetOf_9 ?_
      refine lv_goto (tgt := 19) hx hb dX6_sheetOf_10 (by decide) ?_
      exact r_aret X hH (r0 := none) rfl hf dX6_sheetOf_19
theorem c_X6_sheetOf {l : Launch} {E : Ev} (N : Nat) (S : St) (x1 : Int32) {r : Option Nat} {S1 : St} (hf : f_X6_sheetOf N S x1 = some (r, S1)) : Ct l yX6_sheetOf (.code yX6_sheetOf cX6_sheetOf 2 (some (.object "MacroKeys$Sheet"))) 1 E [.ref (bb E 0), .int x1] S (QQ 12 E r S1) := by
  refine Ct.of (by decide) (Nat.le_of_ble_eq_true rfl) (fun p e s m below meth c ls X hH hl => ?_)
  exact w_X6_sheetOf_0 X N S x1 hf _ _ hH _ hl
set_option maxRecDepth 100000 in
set_option maxHeartbeats 4000000 in
theorem w_X6_cell_0 {p : Program} {l : Launch} {e : Env} {s : State} {m : MethodId} {args : Array Value} {below : List Frame} {meth : Method} {c : Code} {E : Ev} {r : Int64} {S1 : St} (X : GX p s m meth c args cX6_cell 5 (some .long) RX6 E) (N : Nat) : ∀ (S : St) (x1 : Int32) (x2 : Int32) (x3 : Int32), f_X6_cell N S x1 x2 x3 = some (r, S1) → ∀ (H : Heap) (locs : List Loc), HH E S s H locs → ∀ ls : Array Slot, lv_has ls 5 [(0, .ref (bb E 0)), (1, .int x1), (2, .int x2), (3, .int x3)] → W p l e (rmL 3) s m args below meth c H locs 0 0 (MQ below (QL E r S1 s.heap.size) args s 0 0 (AA E s.heap.size)) (F0 m 0 ls []) := by
  have hx := X.1
  have hb := X.2.1
  intro S x1 x2 x3 hf H locs hH ls hl
  rw [f_X6_cell] at hf
  refine lv_aload_n hx hb dX6_cell_0 rfl (lv_at hl 0 rfl) ?_
  refine lv_iconst (v := (nI 0)) hx hb dX6_cell_1 (by decide) ?_
  refine fp_X6_52 X hH dX6_cell_2 (fun H locs hH => ?_)
  obtain ⟨S1, ex, hf⟩ := bnd_go hf
  replace hH := HH_eq ex hH
  clear ex
  refine lv_aload_n hx hb dX6_cell_5 rfl (lv_at hl 0 rfl) ?_
  refine lv_iload_n hx hb dX6_cell_6 rfl (lv_at hl 1 rfl) ?_
  obtain ⟨r4, S2, h3, hf⟩ := cal_g hf
  refine go_q hH (run_V X hH (rest := []) (c_X6_sheetOf N S1 x1 h3) gm_X6_55 (by decide) (e_0 E _) rfl rfl hl.1 (rmL_ok (by decide) (by decide)) (Nat.le_of_ble_eq_true rfl) rfl dX6_cell_7) (fun H locs hH => ?_)
  clear h3
  cases r4 with
  | none =>
    replace hf := opt_n hf
    refine lv_astoreN (lv' := [(4, .null), (0, .ref (bb E 0)), (1, .int x1), (2, .int x2), (3, .int x3)]) hx hb dX6_cell_10 hl (by decide) rfl (fun ls hl => ?_)
    refine lv_aloadN hx hb dX6_cell_12 (lv_at hl 0 rfl) ?_
    refine lv_ifnullN (tgt := 24) hx hb dX6_cell_14 (by decide) ?_
    refine lv_ldc2 (v := (-9223372036854775808 : Int64)) hx hb X.2.2.2.1 (X.2.2.2.2.1 _ q_26_9) dX6_cell_24 ?_
    exact r_lret X hH hf dX6_cell_27
  | some j5 =>
    replace hf := opt_s hf
    obtain ⟨hj5, hf⟩ := ite_g hf
    refine lv_astore (lv' := [(4, .ref (bb E (12 + j5))), (0, .ref (bb E 0)), (1, .int x1), (2, .int x2), (3, .int x3)]) hx hb dX6_cell_10 hl (by decide) rfl (fun ls hl => ?_)
    refine lv_aload hx hb dX6_cell_12 (lv_at hl 0 rfl) ?_
    refine lv_ifnull hx hb dX6_cell_14 ?_
    refine lv_iload_n hx hb dX6_cell_17 rfl (lv_at hl 4 rfl) ?_
    obtain ⟨r8, S6, h7, hf⟩ := cal_g hf
    refine go_i hH (run_S X hH (rest := []) (c_X6_isLane N S2 x3 h7) gm_X6_59 rfl hl.1 (rmL_ok (by decide) (by decide)) (Nat.le_of_ble_eq_true rfl) rfl dX6_cell_18) (fun H locs hH => ?_)
    clear h7
    refine lv_if_ne (tgt := 28) hx hb dX6_cell_21 (by decide) (fun c0 => ?_) (fun c0 => ?_)
    · replace hf := ite_f c0 hf
      refine lv_aload_n hx hb dX6_cell_28 rfl (lv_at hl 1 rfl) ?_
      refine lv_aload hx hb dX6_cell_29 (lv_at hl 0 rfl) ?_
      refine lv_iload_n hx hb dX6_cell_31 rfl (lv_at hl 4 rfl) ?_
      refine lv_iload_n hx hb dX6_cell_32 rfl (lv_at hl 3 rfl) ?_
      refine lv_iconst (v := (nI 1)) hx hb dX6_cell_33 (by decide) ?_
      obtain ⟨r11, S9, h10, hf⟩ := cal_g hf
      refine go_i hH (run_V X hH (rest := [.ref (bb E 0)]) (c_X5_faultOf N S6 j5 x3 x2 (nI 1) hj5 h10) gm_X6_63 (sh54 hj5) (e_sh E hj5 _) rfl rfl hl.1 (rmL_ok (by decide) (by decide)) (Nat.le_of_ble_eq_true rfl) rfl dX6_cell_34) (fun H locs hH => ?_)
      clear h10
      refine fp_X6_52 X hH dX6_cell_37 (fun H locs hH => ?_)
      obtain ⟨S12, ex, hf⟩ := bnd_go hf
      replace hH := HH_eq ex hH
      clear ex
      refine lv_aload_n hx hb dX6_cell_40 rfl (lv_at hl 1 rfl) ?_
      refine fg_X6_52 X hH dX6_cell_41 ?_
      refine lv_if_ne (tgt := 58) hx hb dX6_cell_44 (by decide) (fun c0 => ?_) (fun c0 => ?_)
      · replace hf := ite_f c0 hf
        refine lv_ldc2 (v := (-9223372036854775808 : Int64)) hx hb X.2.2.2.1 (X.2.2.2.2.1 _ q_26_9) dX6_cell_58 ?_
        exact r_lret X hH hf dX6_cell_61
      · replace hf := ite_t c0 hf
        refine lv_aload hx hb dX6_cell_47 (lv_at hl 0 rfl) ?_
        refine fg_X6_150 X hH hj5 dX6_cell_49 ?_
        refine lv_iload_n hx hb dX6_cell_52 rfl (lv_at hl 3 rfl) ?_
        obtain ⟨g, hf⟩ := ite_g hf
        refine r_iald X hH (a_sh E hj5) g dX6_cell_53 ?_
        refine lv_i2l hx hb dX6_cell_54 rfl ?_
        refine lv_goto (tgt := 61) hx hb dX6_cell_55 (by decide) ?_
        exact r_lret X hH hf dX6_cell_61
    · replace hf := ite_t c0 hf
      refine lv_ldc2 (v := (-9223372036854775808 : Int64)) hx hb X.2.2.2.1 (X.2.2.2.2.1 _ q_26_9) dX6_cell_24 ?_
      exact r_lret X hH hf dX6_cell_27
theorem c_X6_cell {l : Launch} {E : Ev} (N : Nat) (S : St) (x1 : Int32) (x2 : Int32) (x3 : Int32) {r : Int64} {S1 : St} (hf : f_X6_cell N S x1 x2 x3 = some (r, S1)) : Ct l yX6_cell (.code yX6_cell cX6_cell 5 (some .long)) 3 E [.ref (bb E 0), .int x1, .int x2, .int x3] S (QL E r S1) := by
  refine Ct.of (by decide) (Nat.le_of_ble_eq_true rfl) (fun p e s m below meth c ls X hH hl => ?_)
  exact w_X6_cell_0 X N S x1 x2 x3 hf _ _ hH _ hl
set_option maxRecDepth 100000 in
set_option maxHeartbeats 4000000 in
theorem w_X6_clear_0 {p : Program} {l : Launch} {e : Env} {s : State} {m : MethodId} {args : Array Value} {below : List Frame} {meth : Method} {c : Code} {E : Ev} {r : Int32} {S1 : St} (X : GX p s m meth c args cX6_clear 2 (some .int) RX6 E) (N : Nat) : ∀ (S : St), f_X6_clear N S = some (r, S1) → ∀ (H : Heap) (locs : List Loc), HH E S s H locs → ∀ ls : Array Slot, lv_has ls 2 [(0, .ref (bb E 0))] → W p l e (rmL 2) s m args below meth c H locs 0 0 (MQ below (QI E r S1 s.heap.size) args s 0 0 (AA E s.heap.size)) (F0 m 0 ls []) := by
  have hx := X.1
  have hb := X.2.1
  intro S hf H locs hH ls hl
  rw [f_X6_clear] at hf
  refine lv_aload_n hx hb dX6_clear_0 rfl (lv_at hl 0 rfl) ?_
  refine fg_X6_48 X hH dX6_clear_1 ?_
  obtain ⟨r3, S1, h2, hf⟩ := cal_g hf
  refine go_i hH (run_S X hH (rest := []) (c_X1_countOf N S (S 0 7) h2) gm_X6_130 rfl hl.1 (rmL_ok (by decide) (by decide)) (Nat.le_of_ble_eq_true rfl) rfl dX6_clear_4) (fun H locs hH => ?_)
  clear h2
  refine lv_istore_n (lv' := [(1, .int r3), (0, .ref (bb E 0))]) hx hb dX6_clear_7 rfl hl (by decide) rfl (fun ls hl => ?_)
  refine lv_aload_n hx hb dX6_clear_8 rfl (lv_at hl 1 rfl) ?_
  refine lv_iconst (v := (nI 0)) hx hb dX6_clear_9 (by decide) ?_
  refine fp_X6_48 X hH dX6_clear_10 (fun H locs hH => ?_)
  obtain ⟨S4, ex, hf⟩ := bnd_go hf
  replace hH := HH_eq ex hH
  clear ex
  refine lv_iload_n hx hb dX6_clear_13 rfl (lv_at hl 0 rfl) ?_
  exact r_iret X hH hf dX6_clear_14
theorem c_X6_clear {l : Launch} {E : Ev} (N : Nat) (S : St) {r : Int32} {S1 : St} (hf : f_X6_clear N S = some (r, S1)) : Ct l yX6_clear (.code yX6_clear cX6_clear 2 (some .int)) 2 E [.ref (bb E 0)] S (QI E r S1) := by
  refine Ct.of (by decide) (Nat.le_of_ble_eq_true rfl) (fun p e s m below meth c ls X hH hl => ?_)
  exact w_X6_clear_0 X N S hf _ _ hH _ hl
set_option maxRecDepth 100000 in
set_option maxHeartbeats 4000000 in
theorem w_X6_click_0 {p : Program} {l : Launch} {e : Env} {s : State} {m : MethodId} {args : Array Value} {below : List Frame} {meth : Method} {c : Code} {E : Ev} {r : Int32} {S1 : St} (X : GX p s m meth c args cX6_click 3 (some .int) RX6 E) (N : Nat) : ∀ (S : St) (x1 : Int32), f_X6_click N S x1 = some (r, S1) → ∀ (H : Heap) (locs : List Loc), HH E S s H locs → ∀ ls : Array Slot, lv_has ls 3 [(0, .ref (bb E 0)), (1, .int x1)] → W p l e (rmL 2) s m args below meth c H locs 0 0 (MQ below (QI E r S1 s.heap.size) args s 0 0 (AA E s.heap.size)) (F0 m 0 ls []) := by
  have hx := X.1
  have hb := X.2.1
  intro S x1 hf H locs hH ls hl
  rw [f_X6_click] at hf
  refine lv_aload_n hx hb dX6_click_0 rfl (lv_at hl 0 rfl) ?_
  refine fg_X6_12 X hH dX6_click_1 ?_
  refine lv_iload_n hx hb dX6_click_4 rfl (lv_at hl 1 rfl) ?_
  obtain ⟨r3, S1, h2, hf⟩ := cal_g hf
  refine go_q hH (run_V X hH (rest := []) (c_X0_macroOf N S x1 h2) gm_X6_88 (by decide) (e_1 E _) rfl rfl hl.1 (rmL_ok (by decide) (by decide)) (Nat.le_of_ble_eq_true rfl) rfl dX6_click_5) (fun H locs hH => ?_)
  clear h2
  cases r3 with
  | none =>
    replace hf := opt_n hf
    refine lv_astore_nN (lv' := [(2, .null), (0, .ref (bb E 0)), (1, .int x1)]) hx hb dX6_click_8 rfl hl (by decide) rfl (fun ls hl => ?_)
    refine lv_aload_nN hx hb dX6_click_9 rfl (lv_at hl 0 rfl) ?_
    refine lv_ifnonnullN hx hb dX6_click_10 ?_
    refine lv_iconst (v := (-1 : Int32)) hx hb dX6_click_13 (by decide) ?_
    exact r_iret X hH hf dX6_click_14
  | some j4 =>
    replace hf := opt_s hf
    obtain ⟨hj4, hf⟩ := ite_g hf
    refine lv_astore_n (lv' := [(2, .ref (bb E (20 + j4))), (0, .ref (bb E 0)), (1, .int x1)]) hx hb dX6_click_8 rfl hl (by decide) rfl (fun ls hl => ?_)
    refine lv_aload_n hx hb dX6_click_9 rfl (lv_at hl 0 rfl) ?_
    refine lv_ifnonnull (tgt := 15) hx hb dX6_click_10 (by decide) ?_
    refine lv_aload_n hx hb dX6_click_15 rfl (lv_at hl 0 rfl) ?_
    refine fg_X6_92 X hH hj4 dX6_click_16 ?_
    refine lv_iconst (v := (nI 2)) hx hb dX6_click_19 (by decide) ?_
    refine lv_icmp_ne (tgt := 31) hx hb dX6_click_20 (by decide) (fun c0 => ?_) (fun c0 => ?_)
    · replace hf := ite_f c0 hf
      refine lv_aload_n hx hb dX6_click_31 rfl (lv_at hl 1 rfl) ?_
      refine lv_iconst (v := (nI 4)) hx hb dX6_click_32 (by decide) ?_
      obtain ⟨_, S5, h6, hf⟩ := cal_g hf
      refine go_v hH (run_V X hH (rest := []) (c_X6_leave N S1 (nI 4) h6) gm_X6_230 (by decide) (e_0 E _) rfl rfl hl.1 (rmL_ok (by decide) (by decide)) (Nat.le_of_ble_eq_true rfl) rfl dX6_click_33) (fun H locs hH => ?_)
      clear h6
      refine lv_aload_n hx hb dX6_click_36 rfl (lv_at hl 0 rfl) ?_
      refine fg_X6_104 X hH hj4 dX6_click_37 ?_
      exact r_iret X hH hf dX6_click_40
    · replace hf := ite_t c0 hf
      refine lv_aload_n hx hb dX6_click_23 rfl (lv_at hl 1 rfl) ?_
      refine lv_iconst (v := (nI 5)) hx hb dX6_click_24 (by decide) ?_
      obtain ⟨_, S8, h9, hf⟩ := cal_g hf
      refine go_v hH (run_V X hH (rest := []) (c_X6_leave N S1 (nI 5) h9) gm_X6_230 (by decide) (e_0 E _) rfl rfl hl.1 (rmL_ok (by decide) (by decide)) (Nat.le_of_ble_eq_true rfl) rfl dX6_click_25) (fun H locs hH => ?_)
      clear h9
      refine lv_bipush (v := (nI 90)) hx hb dX6_click_28 (by decide) ?_
      exact r_iret X hH hf dX6_click_30
theorem c_X6_click {l : Launch} {E : Ev} (N : Nat) (S : St) (x1 : Int32) {r : Int32} {S1 : St} (hf : f_X6_click N S x1 = some (r, S1)) : Ct l yX6_click (.code yX6_click cX6_click 3 (some .int)) 2 E [.ref (bb E 0), .int x1] S (QI E r S1) := by
  refine Ct.of (by decide) (Nat.le_of_ble_eq_true rfl) (fun p e s m below meth c ls X hH hl => ?_)
  exact w_X6_click_0 X N S x1 hf _ _ hH _ hl
set_option maxRecDepth 100000 in
set_option maxHeartbeats 4000000 in
theorem w_X6_come_0 {p : Program} {l : Launch} {e : Env} {s : State} {m : MethodId} {args : Array Value} {below : List Frame} {meth : Method} {c : Code} {E : Ev} {r : Int32} {S1 : St} (X : GX p s m meth c args cX6_come 1 (some .int) RX6 E) (N : Nat) : ∀ (S : St), f_X6_come N S = some (r, S1) → ∀ (H : Heap) (locs : List Loc), HH E S s H locs → ∀ ls : Array Slot, lv_has ls 1 [(0, .ref (bb E 0))] → W p l e (rmL 59) s m args below meth c H locs 0 0 (MQ below (QI E r S1 s.heap.size) args s 0 0 (AA E s.heap.size)) (F0 m 0 ls []) := by
  have hx := X.1
  have hb := X.2.1
  intro S hf H locs hH ls hl
  rw [f_X6_come] at hf
  refine lv_aload_n hx hb dX6_come_0 rfl (lv_at hl 0 rfl) ?_
  refine fg_X6_28 X hH dX6_come_1 ?_
  refine lv_aload_n hx hb dX6_come_4 rfl (lv_at hl 0 rfl) ?_
  refine fg_X6_12 X hH dX6_come_5 ?_
  refine lv_aload_n hx hb dX6_come_8 rfl (lv_at hl 0 rfl) ?_
  refine fg_X6_48 X hH dX6_come_9 ?_
  refine lv_bipush (v := (nI 8)) hx hb dX6_come_12 (by decide) ?_
  obtain ⟨r3, S1, h2, hf⟩ := cal_g hf
  refine go_i hH (run_V X hH (rest := []) (c_X4_reachable N S (S 0 7) (nI 8) h2) gm_X6_188 (by decide) (e_6 E _) rfl rfl hl.1 (rmL_ok (by decide) (by decide)) (Nat.le_of_ble_eq_true rfl) rfl dX6_come_14) (fun H locs hH => ?_)
  clear h2
  exact r_iret X hH hf dX6_come_17
theorem c_X6_come {l : Launch} {E : Ev} (N : Nat) (S : St) {r : Int32} {S1 : St} (hf : f_X6_come N S = some (r, S1)) : Ct l yX6_come (.code yX6_come cX6_come 1 (some .int)) 59 E [.ref (bb E 0)] S (QI E r S1) := by
  refine Ct.of (by decide) (Nat.le_of_ble_eq_true rfl) (fun p e s m below meth c ls X hH hl => ?_)
  exact w_X6_come_0 X N S hf _ _ hH _ hl
set_option maxRecDepth 100000 in
set_option maxHeartbeats 4000000 in
theorem w_X6_copy_0 {p : Program} {l : Launch} {e : Env} {s : State} {m : MethodId} {args : Array Value} {below : List Frame} {meth : Method} {c : Code} {E : Ev} {r : Int32} {S1 : St} (X : GX p s m meth c args cX6_copy 8 (some .int) RX6 E) (N : Nat) : ∀ (S : St) (x1 : Int32) (x2 : Int32) (x3 : Int32) (x4 : Int32) (x5 : Int32), f_X6_copy N S x1 x2 x3 x4 x5 = some (r, S1) → ∀ (H : Heap) (locs : List Loc), HH E S s H locs → ∀ ls : Array Slot, lv_has ls 8 [(0, .ref (bb E 0)), (1, .int x1), (2, .int x2), (3, .int x3), (4, .int x4), (5, .int x5)] → W p l e (rmL 2) s m args below meth c H locs 0 0 (MQ below (QI E r S1 s.heap.size) args s 0 0 (AA E s.heap.size)) (F0 m 0 ls []) := by
  have hx := X.1
  have hb := X.2.1
  intro S x1 x2 x3 x4 x5 hf H locs hH ls hl
  rw [f_X6_copy] at hf
  refine lv_aload_n hx hb dX6_copy_0 rfl (lv_at hl 0 rfl) ?_
  refine lv_iconst (v := (nI 0)) hx hb dX6_copy_1 (by decide) ?_
  refine fp_X6_52 X hH dX6_copy_2 (fun H locs hH => ?_)
  obtain ⟨S1, ex, hf⟩ := bnd_go hf
  replace hH := HH_eq ex hH
  clear ex
  refine lv_aload_n hx hb dX6_copy_5 rfl (lv_at hl 0 rfl) ?_
  refine lv_iload_n hx hb dX6_copy_6 rfl (lv_at hl 1 rfl) ?_
  obtain ⟨r4, S2, h3, hf⟩ := cal_g hf
  refine go_q hH (run_V X hH (rest := []) (c_X6_sheetOf N S1 x1 h3) gm_X6_55 (by decide) (e_0 E _) rfl rfl hl.1 (rmL_ok (by decide) (by decide)) (Nat.le_of_ble_eq_true rfl) rfl dX6_copy_7) (fun H locs hH => ?_)
  clear h3
  cases r4 with
  | none =>
    replace hf := opt_n hf
    refine lv_astoreN (lv' := [(6, .null), (0, .ref (bb E 0)), (1, .int x1), (2, .int x2), (3, .int x3), (4, .int x4), (5, .int x5)]) hx hb dX6_copy_10 hl (by decide) rfl (fun ls hl => ?_)
    refine lv_aload_n hx hb dX6_copy_12 rfl (lv_at hl 1 rfl) ?_
    refine lv_iload_n hx hb dX6_copy_13 rfl (lv_at hl 4 rfl) ?_
    obtain ⟨r8, S6, h7, hf⟩ := cal_g hf
    refine go_q hH (run_V X hH (rest := []) (c_X6_sheetOf N S2 x3 h7) gm_X6_55 (by decide) (e_0 E _) rfl rfl hl.1 (rmL_ok (by decide) (by decide)) (Nat.le_of_ble_eq_true rfl) rfl dX6_copy_14) (fun H locs hH => ?_)
    clear h7
    cases r8 with
    | none =>
      replace hf := opt_n hf
      refine lv_astoreN (lv' := [(7, .null), (6, .null), (0, .ref (bb E 0)), (1, .int x1), (2, .int x2), (3, .int x3), (4, .int x4), (5, .int x5)]) hx hb dX6_copy_17 hl (by decide) rfl (fun ls hl => ?_)
      refine lv_aloadN hx hb dX6_copy_19 (lv_at hl 1 rfl) ?_
      refine lv_ifnullN (tgt := 29) hx hb dX6_copy_21 (by decide) ?_
      refine lv_iconst (v := (-1 : Int32)) hx hb dX6_copy_29 (by decide) ?_
      exact r_iret X hH hf dX6_copy_30
    | some j9 =>
      replace hf := opt_s hf
      obtain ⟨hj9, hf⟩ := ite_g hf
      refine lv_astore (lv' := [(7, .ref (bb E (12 + j9))), (6, .null), (0, .ref (bb E 0)), (1, .int x1), (2, .int x2), (3, .int x3), (4, .int x4), (5, .int x5)]) hx hb dX6_copy_17 hl (by decide) rfl (fun ls hl => ?_)
      refine lv_aloadN hx hb dX6_copy_19 (lv_at hl 1 rfl) ?_
      refine lv_ifnullN (tgt := 29) hx hb dX6_copy_21 (by decide) ?_
      refine lv_iconst (v := (-1 : Int32)) hx hb dX6_copy_29 (by decide) ?_
      exact r_iret X hH hf dX6_copy_30
  | some j5 =>
    replace hf := opt_s hf
    obtain ⟨hj5, hf⟩ := ite_g hf
    refine lv_astore (lv' := [(6, .ref (bb E (12 + j5))), (0, .ref (bb E 0)), (1, .int x1), (2, .int x2), (3, .int x3), (4, .int x4), (5, .int x5)]) hx hb dX6_copy_10 hl (by decide) rfl (fun ls hl => ?_)
    refine lv_aload_n hx hb dX6_copy_12 rfl (lv_at hl 1 rfl) ?_
    refine lv_iload_n hx hb dX6_copy_13 rfl (lv_at hl 4 rfl) ?_
    obtain ⟨r12, S10, h11, hf⟩ := cal_g hf
    refine go_q hH (run_V X hH (rest := []) (c_X6_sheetOf N S2 x3 h11) gm_X6_55 (by decide) (e_0 E _) rfl rfl hl.1 (rmL_ok (by decide) (by decide)) (Nat.le_of_ble_eq_true rfl) rfl dX6_copy_14) (fun H locs hH => ?_)
    clear h11
    cases r12 with
    | none =>
      replace hf := opt_n hf
      refine lv_astoreN (lv' := [(7, .null), (6, .ref (bb E (12 + j5))), (0, .ref (bb E 0)), (1, .int x1), (2, .int x2), (3, .int x3), (4, .int x4), (5, .int x5)]) hx hb dX6_copy_17 hl (by decide) rfl (fun ls hl => ?_)
      refine lv_aload hx hb dX6_copy_19 (lv_at hl 1 rfl) ?_
      refine lv_ifnull hx hb dX6_copy_21 ?_
      refine lv_aloadN hx hb dX6_copy_24 (lv_at hl 0 rfl) ?_
      refine lv_ifnonnullN hx hb dX6_copy_26 ?_
      refine lv_iconst (v := (-1 : Int32)) hx hb dX6_copy_29 (by decide) ?_
      exact r_iret X hH hf dX6_copy_30
    | some j13 =>
      replace hf := opt_s hf
      obtain ⟨hj13, hf⟩ := ite_g hf
      refine lv_astore (lv' := [(7, .ref (bb E (12 + j13))), (6, .ref (bb E (12 + j5))), (0, .ref (bb E 0)), (1, .int x1), (2, .int x2), (3, .int x3), (4, .int x4), (5, .int x5)]) hx hb dX6_copy_17 hl (by decide) rfl (fun ls hl => ?_)
      refine lv_aload hx hb dX6_copy_19 (lv_at hl 1 rfl) ?_
      refine lv_ifnull hx hb dX6_copy_21 ?_
      refine lv_aload hx hb dX6_copy_24 (lv_at hl 0 rfl) ?_
      refine lv_ifnonnull (tgt := 31) hx hb dX6_copy_26 (by decide) ?_
      refine lv_aload hx hb dX6_copy_31 (lv_at hl 1 rfl) ?_
      refine fg_X6_204 X hH hj5 dX6_copy_33 ?_
      refine lv_iconst (v := (-1 : Int32)) hx hb dX6_copy_36 (by decide) ?_
      refine lv_icmp_eq (tgt := 49) hx hb dX6_copy_37 (by decide) (fun c0 => ?_) (fun c0 => ?_)
      · replace hf := ite_t c0 hf
        refine lv_aload_n hx hb dX6_copy_49 rfl (lv_at hl 2 rfl) ?_
        refine lv_iconst (v := (nI 1)) hx hb dX6_copy_50 (by decide) ?_
        obtain ⟨r16, S14, h15, hf⟩ := cal_g hf
        refine go_i hH (run_V X hH (rest := []) (c_X6_meet N S10 (nI 1) h15) gm_X6_67 (by decide) (e_0 E _) rfl rfl hl.1 (rmL_ok (by decide) (by decide)) (Nat.le_of_ble_eq_true rfl) rfl dX6_copy_51) (fun H locs hH => ?_)
        clear h15
        exact r_iret X hH hf dX6_copy_54
      · replace hf := ite_f c0 hf
        refine lv_aload hx hb dX6_copy_40 (lv_at hl 0 rfl) ?_
        refine fg_X6_204 X hH hj13 dX6_copy_42 ?_
        refine lv_iconst (v := (-1 : Int32)) hx hb dX6_copy_45 (by decide) ?_
        refine lv_icmp_ne (tgt := 55) hx hb dX6_copy_46 (by decide) (fun c0 => ?_) (fun c0 => ?_)
        · replace hf := ite_f c0 hf
          refine lv_aload hx hb dX6_copy_55 (lv_at hl 1 rfl) ?_
          refine fg_X6_204 X hH hj5 dX6_copy_57 ?_
          refine lv_aload hx hb dX6_copy_60 (lv_at hl 0 rfl) ?_
          refine fg_X6_204 X hH hj13 dX6_copy_62 ?_
          refine lv_icmp_eq (tgt := 74) hx hb dX6_copy_65 (by decide) (fun c0 => ?_) (fun c0 => ?_)
          · replace hf := ite_t c0 hf
            refine lv_aload hx hb dX6_copy_74 (lv_at hl 1 rfl) ?_
            refine lv_iload_n hx hb dX6_copy_76 rfl (lv_at hl 4 rfl) ?_
            refine lv_iload hx hb dX6_copy_77 (lv_at hl 7 rfl) ?_
            obtain ⟨r19, S17, h18, hf⟩ := cal_g hf
            refine go_i hH (run_V X hH (rest := []) (c_X5_hasAll N S10 j5 x2 x5 hj5 h18) gm_X6_210 (sh54 hj5) (e_sh E hj5 _) rfl rfl hl.1 (rmL_ok (by decide) (by decide)) (Nat.le_of_ble_eq_true rfl) rfl dX6_copy_79) (fun H locs hH => ?_)
            clear h18
            refine lv_if_eq (tgt := 97) hx hb dX6_copy_82 (by decide) (fun c0 => ?_) (fun c0 => ?_)
            · replace hf := ite_t c0 hf
              refine lv_aload_n hx hb dX6_copy_97 rfl (lv_at hl 2 rfl) ?_
              refine lv_iconst (v := (nI 3)) hx hb dX6_copy_98 (by decide) ?_
              obtain ⟨r22, S20, h21, hf⟩ := cal_g hf
              refine go_i hH (run_V X hH (rest := []) (c_X6_meet N S17 (nI 3) h21) gm_X6_67 (by decide) (e_0 E _) rfl rfl hl.1 (rmL_ok (by decide) (by decide)) (Nat.le_of_ble_eq_true rfl) rfl dX6_copy_99) (fun H locs hH => ?_)
              clear h21
              exact r_iret X hH hf dX6_copy_102
            · replace hf := ite_f c0 hf
              refine lv_aload hx hb dX6_copy_85 (lv_at hl 0 rfl) ?_
              refine lv_iload hx hb dX6_copy_87 (lv_at hl 6 rfl) ?_
              refine lv_iload hx hb dX6_copy_89 (lv_at hl 7 rfl) ?_
              obtain ⟨r25, S23, h24, hf⟩ := cal_g hf
              refine go_i hH (run_V X hH (rest := []) (c_X5_hasAll N S17 j13 x4 x5 hj13 h24) gm_X6_210 (sh54 hj13) (e_sh E hj13 _) rfl rfl hl.1 (rmL_ok (by decide) (by decide)) (Nat.le_of_ble_eq_true rfl) rfl dX6_copy_91) (fun H locs hH => ?_)
              clear h24
              refine lv_if_ne (tgt := 103) hx hb dX6_copy_94 (by decide) (fun c0 => ?_) (fun c0 => ?_)
              · replace hf := ite_f c0 hf
                refine lv_aload hx hb dX6_copy_103 (lv_at hl 1 rfl) ?_
                refine fg_X6_150 X hH hj5 dX6_copy_105 ?_
                refine lv_iload_n hx hb dX6_copy_108 rfl (lv_at hl 4 rfl) ?_
                refine lv_aload hx hb dX6_copy_109 (lv_at hl 0 rfl) ?_
                refine fg_X6_150 X hH hj13 dX6_copy_111 ?_
                refine lv_iload hx hb dX6_copy_114 (lv_at hl 6 rfl) ?_
                refine lv_iload hx hb dX6_copy_116 (lv_at hl 7 rfl) ?_
                obtain ⟨g, hf⟩ := ite_g hf
                refine r_copy X hH (a_sh E hj5) (a_sh E hj13) g ac_X6_214 hl.1 (by decide) (Nat.le_of_ble_eq_true rfl) dX6_copy_118 (fun H locs hH => ?_)
                obtain ⟨S26, ex, hf⟩ := bnd_go hf
                replace hH := HH_eq ex hH
                clear ex
                refine lv_iload hx hb dX6_copy_121 (lv_at hl 7 rfl) ?_
                exact r_iret X hH hf dX6_copy_123
              · replace hf := ite_t c0 hf
                refine lv_aload_n hx hb dX6_copy_97 rfl (lv_at hl 2 rfl) ?_
                refine lv_iconst (v := (nI 3)) hx hb dX6_copy_98 (by decide) ?_
                obtain ⟨r29, S27, h28, hf⟩ := cal_g hf
                refine go_i hH (run_V X hH (rest := []) (c_X6_meet N S23 (nI 3) h28) gm_X6_67 (by decide) (e_0 E _) rfl rfl hl.1 (rmL_ok (by decide) (by decide)) (Nat.le_of_ble_eq_true rfl) rfl dX6_copy_99) (fun H locs hH => ?_)
                clear h28
                exact r_iret X hH hf dX6_copy_102
          · replace hf := ite_f c0 hf
            refine lv_aload_n hx hb dX6_copy_68 rfl (lv_at hl 2 rfl) ?_
            refine lv_iconst (v := (nI 2)) hx hb dX6_copy_69 (by decide) ?_
            obtain ⟨r32, S30, h31, hf⟩ := cal_g hf
            refine go_i hH (run_V X hH (rest := []) (c_X6_meet N S10 (nI 2) h31) gm_X6_67 (by decide) (e_0 E _) rfl rfl hl.1 (rmL_ok (by decide) (by decide)) (Nat.le_of_ble_eq_true rfl) rfl dX6_copy_70) (fun H locs hH => ?_)
            clear h31
            exact r_iret X hH hf dX6_copy_73
        · replace hf := ite_t c0 hf
          refine lv_aload_n hx hb dX6_copy_49 rfl (lv_at hl 2 rfl) ?_
          refine lv_iconst (v := (nI 1)) hx hb dX6_copy_50 (by decide) ?_
          obtain ⟨r35, S33, h34, hf⟩ := cal_g hf
          refine go_i hH (run_V X hH (rest := []) (c_X6_meet N S10 (nI 1) h34) gm_X6_67 (by decide) (e_0 E _) rfl rfl hl.1 (rmL_ok (by decide) (by decide)) (Nat.le_of_ble_eq_true rfl) rfl dX6_copy_51) (fun H locs hH => ?_)
          clear h34
          exact r_iret X hH hf dX6_copy_54
theorem c_X6_copy {l : Launch} {E : Ev} (N : Nat) (S : St) (x1 : Int32) (x2 : Int32) (x3 : Int32) (x4 : Int32) (x5 : Int32) {r : Int32} {S1 : St} (hf : f_X6_copy N S x1 x2 x3 x4 x5 = some (r, S1)) : Ct l yX6_copy (.code yX6_copy cX6_copy 8 (some .int)) 2 E [.ref (bb E 0), .int x1, .int x2, .int x3, .int x4, .int x5] S (QI E r S1) := by
  refine Ct.of (by decide) (Nat.le_of_ble_eq_true rfl) (fun p e s m below meth c ls X hH hl => ?_)
  exact w_X6_copy_0 X N S x1 x2 x3 x4 x5 hf _ _ hH _ hl
set_option maxRecDepth 100000 in
set_option maxHeartbeats 4000000 in
theorem w_X6_evenTells_0 {p : Program} {l : Launch} {e : Env} {s : State} {m : MethodId} {args : Array Value} {below : List Frame} {meth : Method} {c : Code} {E : Ev} {r : Int32} {S1 : St} (X : GX p s m meth c args cX6_evenTells 3 (some .int) RX6 E) (N : Nat) : ∀ (S : St) (j1 : Nat) (hj1 : j1 < 6), f_X6_evenTells N S j1 = some (r, S1) → ∀ (H : Heap) (locs : List Loc), HH E S s H locs → ∀ ls : Array Slot, lv_has ls 3 [(0, .ref (bb E 0)), (1, .ref (bb E (20 + j1)))] → W p l e (rmL 4) s m args below meth c H locs 0 0 (MQ below (QI E r S1 s.heap.size) args s 0 0 (AA E s.heap.size)) (F0 m 0 ls []) := by
  have hx := X.1
  have hb := X.2.1
  intro S j1 hj1 hf H locs hH ls hl
  rw [f_X6_evenTells] at hf
  refine lv_aload_n hx hb dX6_evenTells_0 rfl (lv_at hl 0 rfl) ?_
  refine lv_iconst (v := (nI 3)) hx hb dX6_evenTells_1 (by decide) ?_
  obtain ⟨_, S1, h2, hf⟩ := cal_g hf
  refine go_v hH (run_V X hH (rest := []) (c_X6_leave N S (nI 3) h2) gm_X6_230 (by decide) (e_0 E _) rfl rfl hl.1 (rmL_ok (by decide) (by decide)) (Nat.le_of_ble_eq_true rfl) rfl dX6_evenTells_2) (fun H locs hH => ?_)
  clear h2
  refine lv_aload_n hx hb dX6_evenTells_5 rfl (lv_at hl 0 rfl) ?_
  refine lv_aload_n hx hb dX6_evenTells_6 rfl (lv_at hl 1 rfl) ?_
  obtain ⟨r6, S4, h5, hf⟩ := cal_g hf
  refine go_i hH (run_V X hH (rest := []) (c_X6_broadTells N S1 j1 hj1 h5) gm_X6_224 (by decide) (e_0 E _) rfl rfl hl.1 (rmL_ok (by decide) (by decide)) (Nat.le_of_ble_eq_true rfl) rfl dX6_evenTells_7) (fun H locs hH => ?_)
  clear h5
  refine lv_istore_n (lv' := [(2, .int r6), (0, .ref (bb E 0)), (1, .ref (bb E (20 + j1)))]) hx hb dX6_evenTells_10 rfl hl (by decide) rfl (fun ls hl => ?_)
  refine lv_iload_n hx hb dX6_evenTells_11 rfl (lv_at hl 0 rfl) ?_
  refine lv_aload_n hx hb dX6_evenTells_12 rfl (lv_at hl 1 rfl) ?_
  refine lv_aload_n hx hb dX6_evenTells_13 rfl (lv_at hl 2 rfl) ?_
  obtain ⟨r9, S7, h8, hf⟩ := cal_g hf
  refine go_i hH (run_V X hH (rest := [.int r6]) (c_X6_plainTells N S4 j1 hj1 h8) gm_X6_227 (by decide) (e_0 E _) rfl rfl hl.1 (rmL_ok (by decide) (by decide)) (Nat.le_of_ble_eq_true rfl) rfl dX6_evenTells_14) (fun H locs hH => ?_)
  clear h8
  refine lv_iadd hx hb dX6_evenTells_17 ?_
  exact r_iret X hH hf dX6_evenTells_18
theorem c_X6_evenTells {l : Launch} {E : Ev} (N : Nat) (S : St) (j1 : Nat) (hj1 : j1 < 6) {r : Int32} {S1 : St} (hf : f_X6_evenTells N S j1 = some (r, S1)) : Ct l yX6_evenTells (.code yX6_evenTells cX6_evenTells 3 (some .int)) 4 E [.ref (bb E 0), .ref (bb E (20 + j1))] S (QI E r S1) := by
  refine Ct.of (by decide) (Nat.le_of_ble_eq_true rfl) (fun p e s m below meth c ls X hH hl => ?_)
  exact w_X6_evenTells_0 X N S j1 hj1 hf _ _ hH _ hl
set_option maxRecDepth 100000 in
set_option maxHeartbeats 4000000 in
theorem w_X6_fault_0 {p : Program} {l : Launch} {e : Env} {s : State} {m : MethodId} {args : Array Value} {below : List Frame} {meth : Method} {c : Code} {E : Ev} {r : Int32} {S1 : St} (X : GX p s m meth c args cX6_fault 1 (some .int) RX6 E) (N : Nat) : ∀ (S : St), f_X6_fault N S = some (r, S1) → ∀ (H : Heap) (locs : List Loc), HH E S s H locs → ∀ ls : Array Slot, lv_has ls 1 [(0, .ref (bb E 0))] → W p l e (rmL 1) s m args below meth c H locs 0 0 (MQ below (QI E r S1 s.heap.size) args s 0 0 (AA E s.heap.size)) (F0 m 0 ls []) := by
  have hx := X.1
  have hb := X.2.1
  intro S hf H locs hH ls hl
  rw [f_X6_fault] at hf
  refine lv_aload_n hx hb dX6_fault_0 rfl (lv_at hl 0 rfl) ?_
  refine fg_X6_52 X hH dX6_fault_1 ?_
  exact r_iret X hH hf dX6_fault_4
theorem c_X6_fault {l : Launch} {E : Ev} (N : Nat) (S : St) {r : Int32} {S1 : St} (hf : f_X6_fault N S = some (r, S1)) : Ct l yX6_fault (.code yX6_fault cX6_fault 1 (some .int)) 1 E [.ref (bb E 0)] S (QI E r S1) := by
  refine Ct.of (by decide) (Nat.le_of_ble_eq_true rfl) (fun p e s m below meth c ls X hH hl => ?_)
  exact w_X6_fault_0 X N S hf _ _ hH _ hl
set_option maxRecDepth 100000 in
set_option maxHeartbeats 4000000 in
theorem w_X6_lineTold_5 {p : Program} {l : Launch} {e : Env} {s : State} {m : MethodId} {args : Array Value} {below : List Frame} {meth : Method} {c : Code} {E : Ev} {r : Int32} {S1 : St} (X : GX p s m meth c args cX6_lineTold 5 (some .int) RX6 E) (N : Nat) : ∀ (n : Nat) (S : St) (j0 : Nat) (x1 : Int32) (x2 : Int32) (x3 : Int32) (x4 : Int32) (hj0 : j0 < 4), f_X6_lineTold_5 N n S j0 x1 x2 x3 x4 = some (r, S1) → ∀ (H : Heap) (locs : List Loc), HH E S s H locs → ∀ ls : Array Slot, lv_has ls 5 [(0, .ref (bb E (12 + j0))), (1, .int x1), (2, .int x2), (3, .int x3), (4, .int x4)] → W p l e (rmL 2) s m args below meth c H locs 0 0 (MQ below (QI E r S1 s.heap.size) args s 0 0 (AA E s.heap.size)) (F0 m 5 ls []) := by
  have hx := X.1
  have hb := X.2.1
  intro n
  induction n with
  | zero =>
    intro S j0 x1 x2 x3 x4 hj0 hf
    cases hf
  | succ n ih =>
    intro S j0 x1 x2 x3 x4 hj0 hf H locs hH ls hl
    rw [f_X6_lineTold_5] at hf
    refine lv_iload hx hb dX6_lineTold_5 (lv_at hl 4 rfl) ?_
    refine lv_iload_n hx hb dX6_lineTold_7 rfl (lv_at hl 2 rfl) ?_
    refine lv_icmp_ge (tgt := 31) hx hb dX6_lineTold_8 (by decide) (fun c0 => ?_) (fun c0 => ?_)
    · replace hf := ite_t c0 hf
      refine lv_iload_n hx hb dX6_lineTold_31 rfl (lv_at hl 2 rfl) ?_
      refine lv_iconst (v := (nI 0)) hx hb dX6_lineTold_32 (by decide) ?_
      refine lv_iload_n hx hb dX6_lineTold_33 rfl (lv_at hl 3 rfl) ?_
      obtain ⟨r3, S1, h2, hf⟩ := cal_g hf
      refine go_i hH (run_S X hH (rest := []) (c_X1_of N S x2 (nI 0) x3 h2) gm_X6_172 rfl hl.1 (rmL_ok (by decide) (by decide)) (Nat.le_of_ble_eq_true rfl) rfl dX6_lineTold_34) (fun H locs hH => ?_)
      clear h2
      exact r_iret X hH hf dX6_lineTold_37
    · replace hf := ite_f c0 hf
      refine lv_iload_n hx hb dX6_lineTold_11 rfl (lv_at hl 3 rfl) ?_
      refine lv_iconst (v := (nI 4)) hx hb dX6_lineTold_12 (by decide) ?_
      refine lv_imul hx hb dX6_lineTold_13 ?_
      refine lv_aload_n hx hb dX6_lineTold_14 rfl (lv_at hl 0 rfl) ?_
      refine fg_X6_150 X hH hj0 dX6_lineTold_15 ?_
      refine lv_iload_n hx hb dX6_lineTold_18 rfl (lv_at hl 1 rfl) ?_
      refine lv_iload hx hb dX6_lineTold_19 (lv_at hl 4 rfl) ?_
      refine lv_iadd hx hb dX6_lineTold_21 ?_
      obtain ⟨g, hf⟩ := ite_g hf
      refine r_iald X hH (a_sh E hj0) g dX6_lineTold_22 ?_
      refine lv_iadd hx hb dX6_lineTold_23 ?_
      refine lv_topi (fun y4 ex => ?_)
      replace hf := bnd_at ex hf
      clear ex
      refine lv_istore_n (lv' := [(3, .int y4), (0, .ref (bb E (12 + j0))), (1, .int x1), (2, .int x2), (4, .int x4)]) hx hb dX6_lineTold_24 rfl hl (by decide) rfl (fun ls hl => ?_)
      obtain ⟨y5, ex, hf⟩ := bnd_go hf
      refine lv_iinc (v := y5) (lv' := [(4, .int y5), (3, .int y4), (0, .ref (bb E (12 + j0))), (1, .int x1), (2, .int x2)]) hx hb dX6_lineTold_25 hl (k := 4) rfl (by rw [ex]; rfl) (by decide) rfl (fun ls hl => ?_)
      clear ex
      refine lv_goto (tgt := 5) hx hb dX6_lineTold_28 (by decide) ?_
      exact ih S j0 x1 x2 y4 y5 hj0 hf _ _ hH _ (lv_sub hl [2, 3, 4, 1, 0] rfl)
set_option maxRecDepth 100000 in
set_option maxHeartbeats 4000000 in
theorem w_X6_lineTold_0 {p : Program} {l : Launch} {e : Env} {s : State} {m : MethodId} {args : Array Value} {below : List Frame} {meth : Method} {c : Code} {E : Ev} {r : Int32} {S1 : St} (X : GX p s m meth c args cX6_lineTold 5 (some .int) RX6 E) (N : Nat) : ∀ (S : St) (j0 : Nat) (x1 : Int32) (x2 : Int32) (hj0 : j0 < 4), f_X6_lineTold N S j0 x1 x2 = some (r, S1) → ∀ (H : Heap) (locs : List Loc), HH E S s H locs → ∀ ls : Array Slot, lv_has ls 5 [(0, .ref (bb E (12 + j0))), (1, .int x1), (2, .int x2)] → W p l e (rmL 2) s m args below meth c H locs 0 0 (MQ below (QI E r S1 s.heap.size) args s 0 0 (AA E s.heap.size)) (F0 m 0 ls []) := by
  have hx := X.1
  have hb := X.2.1
  intro S j0 x1 x2 hj0 hf H locs hH ls hl
  rw [f_X6_lineTold] at hf
  refine lv_iconst (v := (nI 0)) hx hb dX6_lineTold_0 (by decide) ?_
  refine lv_topi (fun y1 ex => ?_)
  replace hf := bnd_at ex hf
  clear ex
  refine lv_istore_n (lv' := [(3, .int y1), (0, .ref (bb E (12 + j0))), (1, .int x1), (2, .int x2)]) hx hb dX6_lineTold_1 rfl hl (by decide) rfl (fun ls hl => ?_)
  refine lv_iconst (v := (nI 0)) hx hb dX6_lineTold_2 (by decide) ?_
  refine lv_topi (fun y2 ex => ?_)
  replace hf := bnd_at ex hf
  clear ex
  refine lv_istore (lv' := [(4, .int y2), (3, .int y1), (0, .ref (bb E (12 + j0))), (1, .int x1), (2, .int x2)]) hx hb dX6_lineTold_3 hl (by decide) rfl (fun ls hl => ?_)
  exact w_X6_lineTold_5 X N N S j0 x1 x2 y1 y2 hj0 hf _ _ hH _ (lv_sub hl [2, 3, 4, 1, 0] rfl)
theorem c_X6_lineTold {l : Launch} {E : Ev} (N : Nat) (S : St) (j0 : Nat) (x1 : Int32) (x2 : Int32) (hj0 : j0 < 4) {r : Int32} {S1 : St} (hf : f_X6_lineTold N S j0 x1 x2 = some (r, S1)) : Ct l yX6_lineTold (.code yX6_lineTold cX6_lineTold 5 (some .int)) 2 E [.ref (bb E (12 + j0)), .int x1, .int x2] S (QI E r S1) := by
  refine Ct.of (by decide) (Nat.le_of_ble_eq_true rfl) (fun p e s m below meth c ls X hH hl => ?_)
  exact w_X6_lineTold_0 X N S j0 x1 x2 hj0 hf _ _ hH _ hl
set_option maxRecDepth 100000 in
set_option maxHeartbeats 4000000 in
theorem w_X6_fewest_0 {p : Program} {l : Launch} {e : Env} {s : State} {m : MethodId} {args : Array Value} {below : List Frame} {meth : Method} {c : Code} {E : Ev} {r : Int32} {S1 : St} (X : GX p s m meth c args cX6_fewest 9 (some .int) RX6 E) (N : Nat) : ∀ (S : St) (x1 : Int32) (x2 : Int32) (x3 : Int32) (x4 : Int32) (x5 : Int32), f_X6_fewest N S x1 x2 x3 x4 x5 = some (r, S1) → ∀ (H : Heap) (locs : List Loc), HH E S s H locs → ∀ ls : Array Slot, lv_has ls 9 [(0, .ref (bb E 0)), (1, .int x1), (2, .int x2), (3, .int x3), (4, .int x4), (5, .int x5)] → W p l e (rmL 58) s m args below meth c H locs 0 0 (MQ below (QI E r S1 s.heap.size) args s 0 0 (AA E s.heap.size)) (F0 m 0 ls []) := by
  have hx := X.1
  have hb := X.2.1
  intro S x1 x2 x3 x4 x5 hf H locs hH ls hl
  rw [f_X6_fewest] at hf
  refine lv_aload_n hx hb dX6_fewest_0 rfl (lv_at hl 0 rfl) ?_
  refine lv_iconst (v := (nI 0)) hx hb dX6_fewest_1 (by decide) ?_
  refine fp_X6_52 X hH dX6_fewest_2 (fun H locs hH => ?_)
  obtain ⟨S1, ex, hf⟩ := bnd_go hf
  replace hH := HH_eq ex hH
  clear ex
  refine lv_aload_n hx hb dX6_fewest_5 rfl (lv_at hl 0 rfl) ?_
  refine lv_iload_n hx hb dX6_fewest_6 rfl (lv_at hl 1 rfl) ?_
  obtain ⟨r4, S2, h3, hf⟩ := cal_g hf
  refine go_q hH (run_V X hH (rest := []) (c_X6_sheetOf N S1 x1 h3) gm_X6_55 (by decide) (e_0 E _) rfl rfl hl.1 (rmL_ok (by decide) (by decide)) (Nat.le_of_ble_eq_true rfl) rfl dX6_fewest_7) (fun H locs hH => ?_)
  clear h3
  cases r4 with
  | none =>
    replace hf := opt_n hf
    refine lv_astoreN (lv' := [(6, .null), (0, .ref (bb E 0)), (1, .int x1), (2, .int x2), (3, .int x3), (4, .int x4), (5, .int x5)]) hx hb dX6_fewest_10 hl (by decide) rfl (fun ls hl => ?_)
    refine lv_aloadN hx hb dX6_fewest_12 (lv_at hl 0 rfl) ?_
    refine lv_ifnonnullN hx hb dX6_fewest_14 ?_
    refine lv_iconst (v := (-1 : Int32)) hx hb dX6_fewest_17 (by decide) ?_
    exact r_iret X hH hf dX6_fewest_18
  | some j5 =>
    replace hf := opt_s hf
    obtain ⟨hj5, hf⟩ := ite_g hf
    refine lv_astore (lv' := [(6, .ref (bb E (12 + j5))), (0, .ref (bb E 0)), (1, .int x1), (2, .int x2), (3, .int x3), (4, .int x4), (5, .int x5)]) hx hb dX6_fewest_10 hl (by decide) rfl (fun ls hl => ?_)
    refine lv_aload hx hb dX6_fewest_12 (lv_at hl 0 rfl) ?_
    refine lv_ifnonnull (tgt := 19) hx hb dX6_fewest_14 (by decide) ?_
    refine lv_iload_n hx hb dX6_fewest_19 rfl (lv_at hl 3 rfl) ?_
    obtain ⟨r8, S6, h7, hf⟩ := cal_g hf
    refine go_i hH (run_S X hH (rest := []) (c_X6_isLane N S2 x2 h7) gm_X6_59 rfl hl.1 (rmL_ok (by decide) (by decide)) (Nat.le_of_ble_eq_true rfl) rfl dX6_fewest_20) (fun H locs hH => ?_)
    clear h7
    refine lv_if_eq (tgt := 50) hx hb dX6_fewest_23 (by decide) (fun c0 => ?_) (fun c0 => ?_)
    · replace hf := ite_t c0 hf
      refine lv_bipush (v := (-2 : Int32)) hx hb dX6_fewest_50 (by decide) ?_
      exact r_iret X hH hf dX6_fewest_52
    · replace hf := ite_f c0 hf
      refine lv_iload hx hb dX6_fewest_26 (lv_at hl 5 rfl) ?_
      refine lv_if_lt (tgt := 50) hx hb dX6_fewest_28 (by decide) (fun c0 => ?_) (fun c0 => ?_)
      · replace hf := ite_t c0 hf
        refine lv_bipush (v := (-2 : Int32)) hx hb dX6_fewest_50 (by decide) ?_
        exact r_iret X hH hf dX6_fewest_52
      · replace hf := ite_f c0 hf
        refine lv_iload hx hb dX6_fewest_31 (lv_at hl 5 rfl) ?_
        refine lv_iconst (v := (nI 5)) hx hb dX6_fewest_33 (by decide) ?_
        refine lv_icmp_gt (tgt := 50) hx hb dX6_fewest_34 (by decide) (fun c0 => ?_) (fun c0 => ?_)
        · replace hf := ite_t c0 hf
          refine lv_bipush (v := (-2 : Int32)) hx hb dX6_fewest_50 (by decide) ?_
          exact r_iret X hH hf dX6_fewest_52
        · replace hf := ite_f c0 hf
          refine lv_iload hx hb dX6_fewest_37 (lv_at hl 6 rfl) ?_
          refine lv_iconst (v := (-1 : Int32)) hx hb dX6_fewest_39 (by decide) ?_
          refine lv_icmp_lt (tgt := 50) hx hb dX6_fewest_40 (by decide) (fun c0 => ?_) (fun c0 => ?_)
          · replace hf := ite_t c0 hf
            refine lv_bipush (v := (-2 : Int32)) hx hb dX6_fewest_50 (by decide) ?_
            exact r_iret X hH hf dX6_fewest_52
          · replace hf := ite_f c0 hf
            refine lv_iload hx hb dX6_fewest_43 (lv_at hl 6 rfl) ?_
            refine lv_bipush (v := (nI 20)) hx hb dX6_fewest_45 (by decide) ?_
            refine lv_icmp_le (tgt := 53) hx hb dX6_fewest_47 (by decide) (fun c0 => ?_) (fun c0 => ?_)
            · replace hf := ite_t c0 hf
              refine lv_aload hx hb dX6_fewest_53 (lv_at hl 0 rfl) ?_
              refine lv_iload_n hx hb dX6_fewest_55 rfl (lv_at hl 3 rfl) ?_
              refine lv_iload_n hx hb dX6_fewest_56 rfl (lv_at hl 4 rfl) ?_
              refine lv_iload hx hb dX6_fewest_57 (lv_at hl 5 rfl) ?_
              obtain ⟨r11, S9, h10, hf⟩ := cal_g hf
              refine go_i hH (run_V X hH (rest := []) (c_X5_faultOf N S6 j5 x2 x3 x4 hj5 h10) gm_X6_63 (sh54 hj5) (e_sh E hj5 _) rfl rfl hl.1 (rmL_ok (by decide) (by decide)) (Nat.le_of_ble_eq_true rfl) rfl dX6_fewest_59) (fun H locs hH => ?_)
              clear h10
              refine lv_istore (lv' := [(7, .int r11), (6, .ref (bb E (12 + j5))), (0, .ref (bb E 0)), (1, .int x1), (2, .int x2), (3, .int x3), (4, .int x4), (5, .int x5)]) hx hb dX6_fewest_62 hl (by decide) rfl (fun ls hl => ?_)
              refine lv_iload hx hb dX6_fewest_64 (lv_at hl 0 rfl) ?_
              refine lv_if_eq (tgt := 76) hx hb dX6_fewest_66 (by decide) (fun c0 => ?_) (fun c0 => ?_)
              · replace hf := ite_t c0 hf
                refine lv_aload hx hb dX6_fewest_76 (lv_at hl 1 rfl) ?_
                refine lv_iload_n hx hb dX6_fewest_78 rfl (lv_at hl 5 rfl) ?_
                refine lv_iload hx hb dX6_fewest_79 (lv_at hl 6 rfl) ?_
                refine lv_iconst (v := (nI 3)) hx hb dX6_fewest_81 (by decide) ?_
                obtain ⟨r14, S12, h13, hf⟩ := cal_g hf
                refine go_i hH (run_V X hH (rest := []) (c_X5_allWithin N S9 j5 x3 x4 (nI 3) hj5 h13) gm_X6_139 (sh54 hj5) (e_sh E hj5 _) rfl rfl hl.1 (rmL_ok (by decide) (by decide)) (Nat.le_of_ble_eq_true rfl) rfl dX6_fewest_82) (fun H locs hH => ?_)
                clear h13
                refine lv_if_ne (tgt := 91) hx hb dX6_fewest_85 (by decide) (fun c0 => ?_) (fun c0 => ?_)
                · replace hf := ite_f c0 hf
                  refine lv_aload_n hx hb dX6_fewest_91 rfl (lv_at hl 2 rfl) ?_
                  refine fg_X6_28 X hH dX6_fewest_92 ?_
                  refine lv_aload_n hx hb dX6_fewest_95 rfl (lv_at hl 2 rfl) ?_
                  refine fg_X6_12 X hH dX6_fewest_96 ?_
                  refine lv_aload_n hx hb dX6_fewest_99 rfl (lv_at hl 2 rfl) ?_
                  refine fg_X6_48 X hH dX6_fewest_100 ?_
                  refine lv_iconst (v := (nI 0)) hx hb dX6_fewest_103 (by decide) ?_
                  refine lv_aload hx hb dX6_fewest_104 (lv_at hl 1 rfl) ?_
                  refine lv_iload_n hx hb dX6_fewest_106 rfl (lv_at hl 5 rfl) ?_
                  refine lv_iload hx hb dX6_fewest_107 (lv_at hl 6 rfl) ?_
                  obtain ⟨r17, S15, h16, hf⟩ := cal_g hf
                  refine go_i hH (run_S X hH (rest := [.int (nI 0), .int (S12 0 7), .ref (bb E 1), .ref (bb E 6)]) (c_X6_lineTold N S12 j5 x3 x4 hj5 h16) gm_X6_159 rfl hl.1 (rmL_ok (by decide) (by decide)) (Nat.le_of_ble_eq_true rfl) rfl dX6_fewest_109) (fun H locs hH => ?_)
                  clear h16
                  obtain ⟨r20, S18, h19, hf⟩ := cal_g hf
                  refine go_i hH (run_V X hH (rest := []) (c_X4_find N S15 (S12 0 7) (nI 0) r17 h19) gm_X6_162 (by decide) (e_6 E _) rfl rfl hl.1 (rmL_ok (by decide) (by decide)) (Nat.le_of_ble_eq_true rfl) rfl dX6_fewest_112) (fun H locs hH => ?_)
                  clear h19
                  refine lv_istore (lv' := [(8, .int r20), (7, .int r11), (6, .ref (bb E (12 + j5))), (0, .ref (bb E 0)), (1, .int x1), (2, .int x2), (3, .int x3), (4, .int x4), (5, .int x5)]) hx hb dX6_fewest_115 hl (by decide) rfl (fun ls hl => ?_)
                  refine lv_iload hx hb dX6_fewest_117 (lv_at hl 0 rfl) ?_
                  refine lv_bipush (v := (-9 : Int32)) hx hb dX6_fewest_119 (by decide) ?_
                  refine lv_icmp_ne (tgt := 127) hx hb dX6_fewest_121 (by decide) (fun c0 => ?_) (fun c0 => ?_)
                  · replace hf := ite_f c0 hf
                    refine lv_iload hx hb dX6_fewest_127 (lv_at hl 8 rfl) ?_
                    refine lv_iconst (v := (-1 : Int32)) hx hb dX6_fewest_129 (by decide) ?_
                    refine lv_icmp_ne (tgt := 145) hx hb dX6_fewest_130 (by decide) (fun c0 => ?_) (fun c0 => ?_)
                    · replace hf := ite_f c0 hf
                      refine lv_aload_n hx hb dX6_fewest_145 rfl (lv_at hl 3 rfl) ?_
                      refine fg_X6_28 X hH dX6_fewest_146 ?_
                      refine lv_iload hx hb dX6_fewest_149 (lv_at hl 0 rfl) ?_
                      refine lv_iload hx hb dX6_fewest_151 (lv_at hl 8 rfl) ?_
                      obtain ⟨r23, S21, h22, hf⟩ := cal_g hf
                      refine go_i hH (run_V X hH (rest := []) (c_X4_keyTo N S18 r20 x5 h22) gm_X6_169 (by decide) (e_6 E _) rfl rfl hl.1 (rmL_ok (by decide) (by decide)) (Nat.le_of_ble_eq_true rfl) rfl dX6_fewest_153) (fun H locs hH => ?_)
                      clear h22
                      exact r_iret X hH hf dX6_fewest_156
                    · replace hf := ite_t c0 hf
                      refine lv_aload_n hx hb dX6_fewest_133 rfl (lv_at hl 3 rfl) ?_
                      refine fg_X6_28 X hH dX6_fewest_134 ?_
                      refine lv_iload hx hb dX6_fewest_137 (lv_at hl 0 rfl) ?_
                      obtain ⟨r26, S24, h25, hf⟩ := cal_g hf
                      refine go_i hH (run_V X hH (rest := []) (c_X4_stepsTo N S18 r20 h25) gm_X6_166 (by decide) (e_6 E _) rfl rfl hl.1 (rmL_ok (by decide) (by decide)) (Nat.le_of_ble_eq_true rfl) rfl dX6_fewest_139) (fun H locs hH => ?_)
                      clear h25
                      refine lv_goto (tgt := 156) hx hb dX6_fewest_142 (by decide) ?_
                      exact r_iret X hH hf dX6_fewest_156
                  · replace hf := ite_t c0 hf
                    refine lv_bipush (v := (-9 : Int32)) hx hb dX6_fewest_124 (by decide) ?_
                    exact r_iret X hH hf dX6_fewest_126
                · replace hf := ite_t c0 hf
                  refine lv_bipush (v := (-2 : Int32)) hx hb dX6_fewest_88 (by decide) ?_
                  exact r_iret X hH hf dX6_fewest_90
              · replace hf := ite_f c0 hf
                refine lv_aload_n hx hb dX6_fewest_69 rfl (lv_at hl 2 rfl) ?_
                refine lv_iload hx hb dX6_fewest_70 (lv_at hl 0 rfl) ?_
                obtain ⟨r29, S27, h28, hf⟩ := cal_g hf
                refine go_i hH (run_V X hH (rest := []) (c_X6_meet N S9 r11 h28) gm_X6_67 (by decide) (e_0 E _) rfl rfl hl.1 (rmL_ok (by decide) (by decide)) (Nat.le_of_ble_eq_true rfl) rfl dX6_fewest_72) (fun H locs hH => ?_)
                clear h28
                exact r_iret X hH hf dX6_fewest_75
            · replace hf := ite_f c0 hf
              refine lv_bipush (v := (-2 : Int32)) hx hb dX6_fewest_50 (by decide) ?_
              exact r_iret X hH hf dX6_fewest_52
theorem c_X6_fewest {l : Launch} {E : Ev} (N : Nat) (S : St) (x1 : Int32) (x2 : Int32) (x3 : Int32) (x4 : Int32) (x5 : Int32) {r : Int32} {S1 : St} (hf : f_X6_fewest N S x1 x2 x3 x4 x5 = some (r, S1)) : Ct l yX6_fewest (.code yX6_fewest cX6_fewest 9 (some .int)) 58 E [.ref (bb E 0), .int x1, .int x2, .int x3, .int x4, .int x5] S (QI E r S1) := by
  refine Ct.of (by decide) (Nat.le_of_ble_eq_true rfl) (fun p e s m below meth c ls X hH hl => ?_)
  exact w_X6_fewest_0 X N S x1 x2 x3 x4 x5 hf _ _ hH _ hl
set_option maxRecDepth 100000 in
set_option maxHeartbeats 4000000 in
theorem w_X6_isOfRow_9 {p : Program} {l : Launch} {e : Env} {s : State} {m : MethodId} {args : Array Value} {below : List Frame} {meth : Method} {c : Code} {E : Ev} {r : Int32} {S1 : St} (X : GX p s m meth c args cX6_isOfRow 1 (some .boolean) RX6 E) (N : Nat) : ∀ (S : St) (x0 : Int32), f_X6_isOfRow_9 N S x0 = some (r, S1) → ∀ (H : Heap) (locs : List Loc), HH E S s H locs → ∀ ls : Array Slot, lv_has ls 1 [(0, .int x0)] → W p l e (rmL 1) s m args below meth c H locs 0 0 (MQ below (QI E r S1 s.heap.size) args s 0 0 (AA E s.heap.size)) (F0 m 9 ls []) := by
  have hx := X.1
  have hb := X.2.1
  intro S x0 hf H locs hH ls hl
  rw [f_X6_isOfRow_9] at hf
  refine lv_iload_n hx hb dX6_isOfRow_9 rfl (lv_at hl 0 rfl) ?_
  refine lv_bipush (v := (nI 10)) hx hb dX6_isOfRow_10 (by decide) ?_
  refine lv_icmp_lt (tgt := 25) hx hb dX6_isOfRow_12 (by decide) (fun c0 => ?_) (fun c0 => ?_)
  · replace hf := ite_t c0 hf
    refine lv_iconst (v := (nI 0)) hx hb dX6_isOfRow_25 (by decide) ?_
    exact r_zret X hH (by decide) hf dX6_isOfRow_26
  · replace hf := ite_f c0 hf
    refine lv_iload_n hx hb dX6_isOfRow_15 rfl (lv_at hl 0 rfl) ?_
    refine lv_bipush (v := (nI 15)) hx hb dX6_isOfRow_16 (by decide) ?_
    refine lv_icmp_ge (tgt := 25) hx hb dX6_isOfRow_18 (by decide) (fun c0 => ?_) (fun c0 => ?_)
    · replace hf := ite_t c0 hf
      refine lv_iconst (v := (nI 0)) hx hb dX6_isOfRow_25 (by decide) ?_
      exact r_zret X hH (by decide) hf dX6_isOfRow_26
    · replace hf := ite_f c0 hf
      refine lv_iconst (v := (nI 1)) hx hb dX6_isOfRow_21 (by decide) ?_
      refine lv_goto (tgt := 26) hx hb dX6_isOfRow_22 (by decide) ?_
      exact r_zret X hH (by decide) hf dX6_isOfRow_26
set_option maxRecDepth 100000 in
set_option maxHeartbeats 4000000 in
theorem w_X6_isOfRow_0 {p : Program} {l : Launch} {e : Env} {s : State} {m : MethodId} {args : Array Value} {below : List Frame} {meth : Method} {c : Code} {E : Ev} {r : Int32} {S1 : St} (X : GX p s m meth c args cX6_isOfRow 1 (some .boolean) RX6 E) (N : Nat) : ∀ (S : St) (x0 : Int32), f_X6_isOfRow N S x0 = some (r, S1) → ∀ (H : Heap) (locs : List Loc), HH E S s H locs → ∀ ls : Array Slot, lv_has ls 1 [(0, .int x0)] → W p l e (rmL 1) s m args below meth c H locs 0 0 (MQ below (QI E r S1 s.heap.size) args s 0 0 (AA E s.heap.size)) (F0 m 0 ls []) := by
  have hx := X.1
  have hb := X.2.1
  intro S x0 hf H locs hH ls hl
  rw [f_X6_isOfRow] at hf
  refine lv_iload_n hx hb dX6_isOfRow_0 rfl (lv_at hl 0 rfl) ?_
  refine lv_if_lt (tgt := 9) hx hb dX6_isOfRow_1 (by decide) (fun c0 => ?_) (fun c0 => ?_)
  · replace hf := ite_t c0 hf
    exact w_X6_isOfRow_9 X N S x0 hf _ _ hH _ (lv_sub hl [0] rfl)
  · replace hf := ite_f c0 hf
    refine lv_iload_n hx hb dX6_isOfRow_4 rfl (lv_at hl 0 rfl) ?_
    refine lv_iconst (v := (nI 4)) hx hb dX6_isOfRow_5 (by decide) ?_
    refine lv_icmp_le (tgt := 21) hx hb dX6_isOfRow_6 (by decide) (fun c0 => ?_) (fun c0 => ?_)
    · replace hf := ite_t c0 hf
      refine lv_iconst (v := (nI 1)) hx hb dX6_isOfRow_21 (by decide) ?_
      refine lv_goto (tgt := 26) hx hb dX6_isOfRow_22 (by decide) ?_
      exact r_zret X hH (by decide) hf dX6_isOfRow_26
    · replace hf := ite_f c0 hf
      exact w_X6_isOfRow_9 X N S x0 hf _ _ hH _ (lv_sub hl [0] rfl)
theorem c_X6_isOfRow {l : Launch} {E : Ev} (N : Nat) (S : St) (x0 : Int32) {r : Int32} {S1 : St} (hf : f_X6_isOfRow N S x0 = some (r, S1)) : Ct l yX6_isOfRow (.code yX6_isOfRow cX6_isOfRow 1 (some .boolean)) 1 E [.int x0] S (QI E r S1) := by
  refine Ct.of (by decide) (Nat.le_of_ble_eq_true rfl) (fun p e s m below meth c ls X hH hl => ?_)
  exact w_X6_isOfRow_0 X N S x0 hf _ _ hH _ hl
set_option maxRecDepth 100000 in
set_option maxHeartbeats 4000000 in
theorem w_X6_key_0 {p : Program} {l : Launch} {e : Env} {s : State} {m : MethodId} {args : Array Value} {below : List Frame} {meth : Method} {c : Code} {E : Ev} {r : Int32} {S1 : St} (X : GX p s m meth c args cX6_key 5 (some .int) RX6 E) (N : Nat) : ∀ (S : St) (x1 : Int32) (x2 : Int32), f_X6_key N S x1 x2 = some (r, S1) → ∀ (H : Heap) (locs : List Loc), HH E S s H locs → ∀ ls : Array Slot, lv_has ls 5 [(0, .ref (bb E 0)), (1, .int x1), (2, .int x2)] → W p l e (rmL 2) s m args below meth c H locs 0 0 (MQ below (QI E r S1 s.heap.size) args s 0 0 (AA E s.heap.size)) (F0 m 0 ls []) := by
  have hx := X.1
  have hb := X.2.1
  intro S x1 x2 hf H locs hH ls hl
  rw [f_X6_key] at hf
  refine lv_aload_n hx hb dX6_key_0 rfl (lv_at hl 0 rfl) ?_
  refine fg_X6_12 X hH dX6_key_1 ?_
  refine lv_iload_n hx hb dX6_key_4 rfl (lv_at hl 1 rfl) ?_
  obtain ⟨r3, S1, h2, hf⟩ := cal_g hf
  refine go_q hH (run_V X hH (rest := []) (c_X0_macroOf N S x1 h2) gm_X6_88 (by decide) (e_1 E _) rfl rfl hl.1 (rmL_ok (by decide) (by decide)) (Nat.le_of_ble_eq_true rfl) rfl dX6_key_5) (fun H locs hH => ?_)
  clear h2
  cases r3 with
  | none =>
    replace hf := opt_n hf
    refine lv_astore_nN (lv' := [(3, .null), (0, .ref (bb E 0)), (1, .int x1), (2, .int x2)]) hx hb dX6_key_8 rfl hl (by decide) rfl (fun ls hl => ?_)
    refine lv_aload_nN hx hb dX6_key_9 rfl (lv_at hl 0 rfl) ?_
    refine lv_ifnonnullN hx hb dX6_key_10 ?_
    refine lv_iconst (v := (-1 : Int32)) hx hb dX6_key_13 (by decide) ?_
    exact r_iret X hH hf dX6_key_14
  | some j4 =>
    replace hf := opt_s hf
    obtain ⟨hj4, hf⟩ := ite_g hf
    refine lv_astore_n (lv' := [(3, .ref (bb E (20 + j4))), (0, .ref (bb E 0)), (1, .int x1), (2, .int x2)]) hx hb dX6_key_8 rfl hl (by decide) rfl (fun ls hl => ?_)
    refine lv_aload_n hx hb dX6_key_9 rfl (lv_at hl 0 rfl) ?_
    refine lv_ifnonnull (tgt := 15) hx hb dX6_key_10 (by decide) ?_
    refine lv_aload_n hx hb dX6_key_15 rfl (lv_at hl 0 rfl) ?_
    refine lv_iload_n hx hb dX6_key_16 rfl (lv_at hl 3 rfl) ?_
    obtain ⟨r7, S5, h6, hf⟩ := cal_g hf
    refine go_i hH (run_V X hH (rest := []) (c_X2_keyAt N S1 j4 x2 hj4 h6) gm_X6_110 (mk54 hj4) (e_mk E hj4 _) rfl rfl hl.1 (rmL_ok (by decide) (by decide)) (Nat.le_of_ble_eq_true rfl) rfl dX6_key_17) (fun H locs hH => ?_)
    clear h6
    refine lv_istore (lv' := [(4, .int r7), (3, .ref (bb E (20 + j4))), (0, .ref (bb E 0)), (1, .int x1), (2, .int x2)]) hx hb dX6_key_20 hl (by decide) rfl (fun ls hl => ?_)
    refine lv_iload hx hb dX6_key_22 (lv_at hl 0 rfl) ?_
    refine lv_bipush (v := (-9 : Int32)) hx hb dX6_key_24 (by decide) ?_
    refine lv_icmp_ne (tgt := 33) hx hb dX6_key_26 (by decide) (fun c0 => ?_) (fun c0 => ?_)
    · replace hf := ite_f c0 hf
      refine lv_iload hx hb dX6_key_33 (lv_at hl 0 rfl) ?_
      exact r_iret X hH hf dX6_key_35
    · replace hf := ite_t c0 hf
      refine lv_iconst (v := (-1 : Int32)) hx hb dX6_key_29 (by decide) ?_
      refine lv_goto (tgt := 35) hx hb dX6_key_30 (by decide) ?_
      exact r_iret X hH hf dX6_key_35
theorem c_X6_key {l : Launch} {E : Ev} (N : Nat) (S : St) (x1 : Int32) (x2 : Int32) {r : Int32} {S1 : St} (hf : f_X6_key N S x1 x2 = some (r, S1)) : Ct l yX6_key (.code yX6_key cX6_key 5 (some .int)) 2 E [.ref (bb E 0), .int x1, .int x2] S (QI E r S1) := by
  refine Ct.of (by decide) (Nat.le_of_ble_eq_true rfl) (fun p e s m below meth c ls X hH hl => ?_)
  exact w_X6_key_0 X N S x1 x2 hf _ _ hH _ hl
set_option maxRecDepth 100000 in
set_option maxHeartbeats 4000000 in
theorem w_X6_readingsAreSo_2 {p : Program} {l : Launch} {e : Env} {s : State} {m : MethodId} {args : Array Value} {below : List Frame} {meth : Method} {c : Code} {E : Ev} {r : Int32} {S1 : St} (X : GX p s m meth c args cX6_readingsAreSo 3 (some .boolean) RX6 E) (N : Nat) : ∀ (n : Nat) (S : St) (x1 : Int32), f_X6_readingsAreSo_2 N n S x1 = some (r, S1) → ∀ (H : Heap) (locs : List Loc), HH E S s H locs → ∀ ls : Array Slot, lv_has ls 3 [(0, .ref (bb E 0)), (1, .int x1)] → W p l e (rmL 57) s m args below meth c H locs 0 0 (MQ below (QI E r S1 s.heap.size) args s 0 0 (AA E s.heap.size)) (F0 m 2 ls []) := by
  have hx := X.1
  have hb := X.2.1
  intro n
  induction n with
  | zero =>
    intro S x1 hf
    cases hf
  | succ n ih =>
    intro S x1 hf H locs hH ls hl
    rw [f_X6_readingsAreSo_2] at hf
    refine lv_iload_n hx hb dX6_readingsAreSo_2 rfl (lv_at hl 1 rfl) ?_
    refine lv_aload_n hx hb dX6_readingsAreSo_3 rfl (lv_at hl 0 rfl) ?_
    refine fg_X6_82 X hH dX6_readingsAreSo_4 ?_
    refine lv_icmp_ge (tgt := 55) hx hb dX6_readingsAreSo_7 (by decide) (fun c0 => ?_) (fun c0 => ?_)
    · replace hf := ite_t c0 hf
      refine lv_iconst (v := (nI 1)) hx hb dX6_readingsAreSo_55 (by decide) ?_
      exact r_zret X hH (by decide) hf dX6_readingsAreSo_56
    · replace hf := ite_f c0 hf
      refine lv_iload_n hx hb dX6_readingsAreSo_10 rfl (lv_at hl 1 rfl) ?_
      refine lv_bipush (v := (nI 8)) hx hb dX6_readingsAreSo_11 (by decide) ?_
      refine lv_icmp_ge (tgt := 55) hx hb dX6_readingsAreSo_13 (by decide) (fun c0 => ?_) (fun c0 => ?_)
      · replace hf := ite_t c0 hf
        refine lv_iconst (v := (nI 1)) hx hb dX6_readingsAreSo_55 (by decide) ?_
        exact r_zret X hH (by decide) hf dX6_readingsAreSo_56
      · replace hf := ite_f c0 hf
        refine lv_aload_n hx hb dX6_readingsAreSo_16 rfl (lv_at hl 0 rfl) ?_
        refine fg_X6_12 X hH dX6_readingsAreSo_17 ?_
        refine lv_iconst (v := (nI 0)) hx hb dX6_readingsAreSo_20 (by decide) ?_
        refine lv_bipush (v := (nI 8)) hx hb dX6_readingsAreSo_21 (by decide) ?_
        refine lv_aload_n hx hb dX6_readingsAreSo_23 rfl (lv_at hl 0 rfl) ?_
        refine fg_X6_39 X hH dX6_readingsAreSo_24 ?_
        refine lv_iload_n hx hb dX6_readingsAreSo_27 rfl (lv_at hl 1 rfl) ?_
        obtain ⟨g, hf⟩ := ite_g hf
        refine r_iald X hH (a_10 E) g dX6_readingsAreSo_28 ?_
        refine lv_iadd hx hb dX6_readingsAreSo_29 ?_
        obtain ⟨r3, S1, h2, hf⟩ := cal_g hf
        refine go_i hH (run_V X hH (rest := []) (c_X0_lineAfter N S (nI 0) ((nI 8) + (S 10 x1.toNatClampNeg)) h2) gm_X6_185 (by decide) (e_1 E _) rfl rfl hl.1 (rmL_ok (by decide) (by decide)) (Nat.le_of_ble_eq_true rfl) rfl dX6_readingsAreSo_30) (fun H locs hH => ?_)
        clear h2
        refine lv_istore_n (lv' := [(2, .int r3), (0, .ref (bb E 0)), (1, .int x1)]) hx hb dX6_readingsAreSo_33 rfl hl (by decide) rfl (fun ls hl => ?_)
        refine lv_iload_n hx hb dX6_readingsAreSo_34 rfl (lv_at hl 0 rfl) ?_
        obtain ⟨r6, S4, h5, hf⟩ := cal_g hf
        refine go_i hH (run_S X hH (rest := []) (c_X1_countOf N S1 r3 h5) gm_X6_130 rfl hl.1 (rmL_ok (by decide) (by decide)) (Nat.le_of_ble_eq_true rfl) rfl dX6_readingsAreSo_35) (fun H locs hH => ?_)
        clear h5
        refine lv_aload_n hx hb dX6_readingsAreSo_38 rfl (lv_at hl 1 rfl) ?_
        refine fg_X6_43 X hH dX6_readingsAreSo_39 ?_
        refine lv_iload_n hx hb dX6_readingsAreSo_42 rfl (lv_at hl 2 rfl) ?_
        obtain ⟨g, hf⟩ := ite_g hf
        refine r_iald X hH (a_11 E) g dX6_readingsAreSo_43 ?_
        refine lv_icmp_eq (tgt := 49) hx hb dX6_readingsAreSo_44 (by decide) (fun c0 => ?_) (fun c0 => ?_)
        · replace hf := ite_t c0 hf
          obtain ⟨y7, ex, hf⟩ := bnd_go hf
          refine lv_iinc (v := y7) (lv' := [(1, .int y7), (2, .int r3), (0, .ref (bb E 0))]) hx hb dX6_readingsAreSo_49 hl (k := 2) rfl (by rw [ex]; rfl) (by decide) rfl (fun ls hl => ?_)
          clear ex
          refine lv_goto (tgt := 2) hx hb dX6_readingsAreSo_52 (by decide) ?_
          exact ih S4 y7 hf _ _ hH _ (lv_sub hl [2, 0] rfl)
        · replace hf := ite_f c0 hf
          refine lv_iconst (v := (nI 0)) hx hb dX6_readingsAreSo_47 (by decide) ?_
          exact r_zret X hH (by decide) hf dX6_readingsAreSo_48
set_option maxRecDepth 100000 in
set_option maxHeartbeats 4000000 in
theorem w_X6_readingsAreSo_0 {p : Program} {l : Launch} {e : Env} {s : State} {m : MethodId} {args : Array Value} {below : List Frame} {meth : Method} {c : Code} {E : Ev} {r : Int32} {S1 : St} (X : GX p s m meth c args cX6_readingsAreSo 3 (some .boolean) RX6 E) (N : Nat) : ∀ (S : St), f_X6_readingsAreSo N S = some (r, S1) → ∀ (H : Heap) (locs : List Loc), HH E S s H locs → ∀ ls : Array Slot, lv_has ls 3 [(0, .ref (bb E 0))] → W p l e (rmL 57) s m args below meth c H locs 0 0 (MQ below (QI E r S1 s.heap.size) args s 0 0 (AA E s.heap.size)) (F0 m 0 ls []) := by
  have hx := X.1
  have hb := X.2.1
  intro S hf H locs hH ls hl
  rw [f_X6_readingsAreSo] at hf
  refine lv_iconst (v := (nI 0)) hx hb dX6_readingsAreSo_0 (by decide) ?_
  refine lv_topi (fun y1 ex => ?_)
  replace hf := bnd_at ex hf
  clear ex
  refine lv_istore_n (lv' := [(1, .int y1), (0, .ref (bb E 0))]) hx hb dX6_readingsAreSo_1 rfl hl (by decide) rfl (fun ls hl => ?_)
  exact w_X6_readingsAreSo_2 X N N S y1 hf _ _ hH _ (lv_sub hl [1, 0] rfl)
theorem c_X6_readingsAreSo {l : Launch} {E : Ev} (N : Nat) (S : St) {r : Int32} {S1 : St} (hf : f_X6_readingsAreSo N S = some (r, S1)) : Ct l yX6_readingsAreSo (.code yX6_readingsAreSo cX6_readingsAreSo 3 (some .boolean)) 57 E [.ref (bb E 0)] S (QI E r S1) := by
  refine Ct.of (by decide) (Nat.le_of_ble_eq_true rfl) (fun p e s m below meth c ls X hH hl => ?_)
  exact w_X6_readingsAreSo_0 X N S hf _ _ hH _ hl
set_option maxRecDepth 100000 in
set_option maxHeartbeats 4000000 in
theorem w_X6_kinds_26 {p : Program} {l : Launch} {e : Env} {s : State} {m : MethodId} {args : Array Value} {below : List Frame} {meth : Method} {c : Code} {E : Ev} {r : Int32} {S1 : St} (X : GX p s m meth c args cX6_kinds 6 (some .int) RX6 E) (N : Nat) : ∀ (n : Nat) (S : St) (x1 : Int32) (j2 : Nat) (x3 : Int32) (x4 : Int32) (x5 : Int32) (hj2 : j2 < 6), f_X6_kinds_26 N n S x1 j2 x3 x4 x5 = some (r, S1) → ∀ (H : Heap) (locs : List Loc), HH E S s H locs → ∀ ls : Array Slot, lv_has ls 6 [(0, .ref (bb E 0)), (1, .int x1), (2, .ref (bb E (20 + j2))), (3, .int x3), (4, .int x4), (5, .int x5)] → W p l e (rmL 58) s m args below meth c H locs 0 0 (MQ below (QI E r S1 s.heap.size) args s 0 0 (AA E s.heap.size)) (F0 m 26 ls []) := by
  have hx := X.1
  have hb := X.2.1
  intro n
  induction n with
  | zero =>
    intro S x1 j2 x3 x4 x5 hj2 hf
    cases hf
  | succ n ih =>
    intro S x1 j2 x3 x4 x5 hj2 hf H locs hH ls hl
    rw [f_X6_kinds_26] at hf
    refine lv_iload hx hb dX6_kinds_26 (lv_at hl 5 rfl) ?_
    refine lv_iconst (v := (nI 2)) hx hb dX6_kinds_28 (by decide) ?_
    refine lv_icmp_gt (tgt := 72) hx hb dX6_kinds_29 (by decide) (fun c0 => ?_) (fun c0 => ?_)
    · replace hf := ite_t c0 hf
      refine lv_aload_n hx hb dX6_kinds_72 rfl (lv_at hl 0 rfl) ?_
      refine fg_X6_12 X hH dX6_kinds_73 ?_
      refine lv_iload_n hx hb dX6_kinds_76 rfl (lv_at hl 1 rfl) ?_
      refine lv_iload_n hx hb dX6_kinds_77 rfl (lv_at hl 3 rfl) ?_
      refine lv_aload_n hx hb dX6_kinds_78 rfl (lv_at hl 2 rfl) ?_
      refine fg_X6_97 X hH hj2 dX6_kinds_79 ?_
      obtain ⟨_, S1, h2, hf⟩ := cal_g hf
      refine go_v hH (run_V X hH (rest := []) (c_X0_change N S x1 x3 (S (20 + j2) 1) h2) gm_X6_113 (by decide) (e_1 E _) rfl rfl hl.1 (rmL_ok (by decide) (by decide)) (Nat.le_of_ble_eq_true rfl) rfl dX6_kinds_82) (fun H locs hH => ?_)
      clear h2
      refine lv_iload hx hb dX6_kinds_85 (lv_at hl 4 rfl) ?_
      exact r_iret X hH hf dX6_kinds_87
    · replace hf := ite_f c0 hf
      refine lv_aload_n hx hb dX6_kinds_32 rfl (lv_at hl 0 rfl) ?_
      refine fg_X6_12 X hH dX6_kinds_33 ?_
      refine lv_iload_n hx hb dX6_kinds_36 rfl (lv_at hl 1 rfl) ?_
      refine lv_iload hx hb dX6_kinds_37 (lv_at hl 5 rfl) ?_
      refine lv_aload_n hx hb dX6_kinds_39 rfl (lv_at hl 2 rfl) ?_
      refine fg_X6_97 X hH hj2 dX6_kinds_40 ?_
      obtain ⟨_, S4, h5, hf⟩ := cal_g hf
      refine go_v hH (run_V X hH (rest := []) (c_X0_change N S x1 x5 (S (20 + j2) 1) h5) gm_X6_113 (by decide) (e_1 E _) rfl rfl hl.1 (rmL_ok (by decide) (by decide)) (Nat.le_of_ble_eq_true rfl) rfl dX6_kinds_43) (fun H locs hH => ?_)
      clear h5
      refine lv_iload hx hb dX6_kinds_46 (lv_at hl 4 rfl) ?_
      refine lv_aload_n hx hb dX6_kinds_48 rfl (lv_at hl 0 rfl) ?_
      obtain ⟨r9, S7, h8, hf⟩ := cal_g hf
      refine go_i hH (run_V X hH (rest := [.int x4]) (c_X6_readingsAreSo N S4 h8) gm_X6_191 (by decide) (e_0 E _) rfl rfl hl.1 (rmL_ok (by decide) (by decide)) (Nat.le_of_ble_eq_true rfl) rfl dX6_kinds_49) (fun H locs hH => ?_)
      clear h8
      refine lv_if_eq (tgt := 62) hx hb dX6_kinds_52 (by decide) (fun c0 => ?_) (fun c0 => ?_)
      · replace hf := ite_t c0 hf
        refine lv_iconst (v := (nI 0)) hx hb dX6_kinds_62 (by decide) ?_
        refine lv_ior hx hb dX6_kinds_63 ?_
        refine lv_topi (fun y10 ex => ?_)
        replace hf := bnd_at ex hf
        clear ex
        refine lv_istore (lv' := [(4, .int y10), (0, .ref (bb E 0)), (1, .int x1), (2, .ref (bb E (20 + j2))), (3, .int x3), (5, .int x5)]) hx hb dX6_kinds_64 hl (by decide) rfl (fun ls hl => ?_)
        obtain ⟨y11, ex, hf⟩ := bnd_go hf
        refine lv_iinc (v := y11) (lv' := [(5, .int y11), (4, .int y10), (0, .ref (bb E 0)), (1, .int x1), (2, .ref (bb E (20 + j2))), (3, .int x3)]) hx hb dX6_kinds_66 hl (k := 5) rfl (by rw [ex]; rfl) (by decide) rfl (fun ls hl => ?_)
        clear ex
        refine lv_goto (tgt := 26) hx hb dX6_kinds_69 (by decide) ?_
        exact ih S7 x1 j2 x3 y10 y11 hj2 hf _ _ hH _ (lv_sub hl [2, 3, 4, 5, 1, 0] rfl)
      · replace hf := ite_f c0 hf
        refine lv_iconst (v := (nI 1)) hx hb dX6_kinds_55 (by decide) ?_
        refine lv_iload hx hb dX6_kinds_56 (lv_at hl 5 rfl) ?_
        refine lv_ishl hx hb dX6_kinds_58 ?_
        refine lv_goto (tgt := 63) hx hb dX6_kinds_59 (by decide) ?_
        refine lv_ior hx hb dX6_kinds_63 ?_
        refine lv_topi (fun y12 ex => ?_)
        replace hf := bnd_at ex hf
        clear ex
        refine lv_istore (lv' := [(4, .int y12), (0, .ref (bb E 0)), (1, .int x1), (2, .ref (bb E (20 + j2))), (3, .int x3), (5, .int x5)]) hx hb dX6_kinds_64 hl (by decide) rfl (fun ls hl => ?_)
        obtain ⟨y13, ex, hf⟩ := bnd_go hf
        refine lv_iinc (v := y13) (lv' := [(5, .int y13), (4, .int y12), (0, .ref (bb E 0)), (1, .int x1), (2, .ref (bb E (20 + j2))), (3, .int x3)]) hx hb dX6_kinds_66 hl (k := 5) rfl (by rw [ex]; rfl) (by decide) rfl (fun ls hl => ?_)
        clear ex
        refine lv_goto (tgt := 26) hx hb dX6_kinds_69 (by decide) ?_
        exact ih S7 x1 j2 x3 y12 y13 hj2 hf _ _ hH _ (lv_sub hl [2, 3, 4, 5, 1, 0] rfl)
set_option maxRecDepth 100000 in
set_option maxHeartbeats 4000000 in
theorem w_X6_kinds_0 {p : Program} {l : Launch} {e : Env} {s : State} {m : MethodId} {args : Array Value} {below : List Frame} {meth : Method} {c : Code} {E : Ev} {r : Int32} {S1 : St} (X : GX p s m meth c args cX6_kinds 6 (some .int) RX6 E) (N : Nat) : ∀ (S : St) (x1 : Int32), f_X6_kinds N S x1 = some (r, S1) → ∀ (H : Heap) (locs : List Loc), HH E S s H locs → ∀ ls : Array Slot, lv_has ls 6 [(0, .ref (bb E 0)), (1, .int x1)] → W p l e (rmL 58) s m args below meth c H locs 0 0 (MQ below (QI E r S1 s.heap.size) args s 0 0 (AA E s.heap.size)) (F0 m 0 ls []) := by
  have hx := X.1
  have hb := X.2.1
  intro S x1 hf H locs hH ls hl
  rw [f_X6_kinds] at hf
  refine lv_aload_n hx hb dX6_kinds_0 rfl (lv_at hl 0 rfl) ?_
  refine fg_X6_12 X hH dX6_kinds_1 ?_
  refine lv_iload_n hx hb dX6_kinds_4 rfl (lv_at hl 1 rfl) ?_
  obtain ⟨r3, S1, h2, hf⟩ := cal_g hf
  refine go_q hH (run_V X hH (rest := []) (c_X0_macroOf N S x1 h2) gm_X6_88 (by decide) (e_1 E _) rfl rfl hl.1 (rmL_ok (by decide) (by decide)) (Nat.le_of_ble_eq_true rfl) rfl dX6_kinds_5) (fun H locs hH => ?_)
  clear h2
  cases r3 with
  | none =>
    replace hf := opt_n hf
    refine lv_astore_nN (lv' := [(2, .null), (0, .ref (bb E 0)), (1, .int x1)]) hx hb dX6_kinds_8 rfl hl (by decide) rfl (fun ls hl => ?_)
    refine lv_aload_nN hx hb dX6_kinds_9 rfl (lv_at hl 0 rfl) ?_
    refine lv_ifnonnullN hx hb dX6_kinds_10 ?_
    refine lv_iconst (v := (-1 : Int32)) hx hb dX6_kinds_13 (by decide) ?_
    exact r_iret X hH hf dX6_kinds_14
  | some j4 =>
    replace hf := opt_s hf
    obtain ⟨hj4, hf⟩ := ite_g hf
    refine lv_astore_n (lv' := [(2, .ref (bb E (20 + j4))), (0, .ref (bb E 0)), (1, .int x1)]) hx hb dX6_kinds_8 rfl hl (by decide) rfl (fun ls hl => ?_)
    refine lv_aload_n hx hb dX6_kinds_9 rfl (lv_at hl 0 rfl) ?_
    refine lv_ifnonnull (tgt := 15) hx hb dX6_kinds_10 (by decide) ?_
    refine lv_aload_n hx hb dX6_kinds_15 rfl (lv_at hl 0 rfl) ?_
    refine fg_X6_92 X hH hj4 dX6_kinds_16 ?_
    refine lv_topi (fun y5 ex => ?_)
    replace hf := bnd_at ex hf
    clear ex
    refine lv_istore_n (lv' := [(3, .int y5), (2, .ref (bb E (20 + j4))), (0, .ref (bb E 0)), (1, .int x1)]) hx hb dX6_kinds_19 rfl hl (by decide) rfl (fun ls hl => ?_)
    refine lv_iconst (v := (nI 0)) hx hb dX6_kinds_20 (by decide) ?_
    refine lv_topi (fun y6 ex => ?_)
    replace hf := bnd_at ex hf
    clear ex
    refine lv_istore (lv' := [(4, .int y6), (3, .int y5), (2, .ref (bb E (20 + j4))), (0, .ref (bb E 0)), (1, .int x1)]) hx hb dX6_kinds_21 hl (by decide) rfl (fun ls hl => ?_)
    refine lv_iconst (v := (nI 0)) hx hb dX6_kinds_23 (by decide) ?_
    refine lv_topi (fun y7 ex => ?_)
    replace hf := bnd_at ex hf
    clear ex
    refine lv_istore (lv' := [(5, .int y7), (4, .int y6), (3, .int y5), (2, .ref (bb E (20 + j4))), (0, .ref (bb E 0)), (1, .int x1)]) hx hb dX6_kinds_24 hl (by decide) rfl (fun ls hl => ?_)
    exact w_X6_kinds_26 X N N S1 x1 j4 y5 y6 y7 hj4 hf _ _ hH _ (lv_sub hl [4, 5, 3, 2, 1, 0] rfl)
theorem c_X6_kinds {l : Launch} {E : Ev} (N : Nat) (S : St) (x1 : Int32) {r : Int32} {S1 : St} (hf : f_X6_kinds N S x1 = some (r, S1)) : Ct l yX6_kinds (.code yX6_kinds cX6_kinds 6 (some .int)) 58 E [.ref (bb E 0), .int x1] S (QI E r S1) := by
  refine Ct.of (by decide) (Nat.le_of_ble_eq_true rfl) (fun p e s m below meth c ls X hH hl => ?_)
  exact w_X6_kinds_0 X N S x1 hf _ _ hH _ hl
set_option maxRecDepth 100000 in
set_option maxHeartbeats 4000000 in
theorem w_X6_letter_0 {p : Program} {l : Launch} {e : Env} {s : State} {m : MethodId} {args : Array Value} {below : List Frame} {meth : Method} {c : Code} {E : Ev} {r : Int32} {S1 : St} (X : GX p s m meth c args cX6_letter 2 (some .int) RX6 E) (N : Nat) : ∀ (S : St) (x1 : Int32), f_X6_letter N S x1 = some (r, S1) → ∀ (H : Heap) (locs : List Loc), HH E S s H locs → ∀ ls : Array Slot, lv_has ls 2 [(0, .ref (bb E 0)), (1, .int x1)] → W p l e (rmL 3) s m args below meth c H locs 0 0 (MQ below (QI E r S1 s.heap.size) args s 0 0 (AA E s.heap.size)) (F0 m 0 ls []) := by
  have hx := X.1
  have hb := X.2.1
  intro S x1 hf H locs hH ls hl
  rw [f_X6_letter] at hf
  refine lv_iload_n hx hb dX6_letter_0 rfl (lv_at hl 1 rfl) ?_
  refine lv_if_lt (tgt := 15) hx hb dX6_letter_1 (by decide) (fun c0 => ?_) (fun c0 => ?_)
  · replace hf := ite_t c0 hf
    refine lv_iconst (v := (-1 : Int32)) hx hb dX6_letter_15 (by decide) ?_
    refine lv_goto (tgt := 27) hx hb dX6_letter_16 (by decide) ?_
    exact r_iret X hH hf dX6_letter_27
  · replace hf := ite_f c0 hf
    refine lv_iload_n hx hb dX6_letter_4 rfl (lv_at hl 1 rfl) ?_
    refine lv_aload_n hx hb dX6_letter_5 rfl (lv_at hl 0 rfl) ?_
    refine fg_X6_48 X hH dX6_letter_6 ?_
    obtain ⟨r3, S1, h2, hf⟩ := cal_g hf
    refine go_i hH (run_S X hH (rest := [.int x1]) (c_X1_countOf N S (S 0 7) h2) gm_X6_130 rfl hl.1 (rmL_ok (by decide) (by decide)) (Nat.le_of_ble_eq_true rfl) rfl dX6_letter_9) (fun H locs hH => ?_)
    clear h2
    refine lv_icmp_lt (tgt := 19) hx hb dX6_letter_12 (by decide) (fun c0 => ?_) (fun c0 => ?_)
    · replace hf := ite_t c0 hf
      refine lv_aload_n hx hb dX6_letter_19 rfl (lv_at hl 0 rfl) ?_
      refine fg_X6_48 X hH dX6_letter_20 ?_
      refine lv_iload_n hx hb dX6_letter_23 rfl (lv_at hl 1 rfl) ?_
      obtain ⟨r6, S4, h5, hf⟩ := cal_g hf
      refine go_i hH (run_S X hH (rest := []) (c_X1_letterAt N S1 (S1 0 7) x1 h5) gm_X6_133 rfl hl.1 (rmL_ok (by decide) (by decide)) (Nat.le_of_ble_eq_true rfl) rfl dX6_letter_24) (fun H locs hH => ?_)
      clear h5
      exact r_iret X hH hf dX6_letter_27
    · replace hf := ite_f c0 hf
      refine lv_iconst (v := (-1 : Int32)) hx hb dX6_letter_15 (by decide) ?_
      refine lv_goto (tgt := 27) hx hb dX6_letter_16 (by decide) ?_
      exact r_iret X hH hf dX6_letter_27
theorem c_X6_letter {l : Launch} {E : Ev} (N : Nat) (S : St) (x1 : Int32) {r : Int32} {S1 : St} (hf : f_X6_letter N S x1 = some (r, S1)) : Ct l yX6_letter (.code yX6_letter cX6_letter 2 (some .int)) 3 E [.ref (bb E 0), .int x1] S (QI E r S1) := by
  refine Ct.of (by decide) (Nat.le_of_ble_eq_true rfl) (fun p e s m below meth c ls X hH hl => ?_)
  exact w_X6_letter_0 X N S x1 hf _ _ hH _ hl
set_option maxRecDepth 100000 in
set_option maxHeartbeats 4000000 in
theorem w_X6_like_29 {p : Program} {l : Launch} {e : Env} {s : State} {m : MethodId} {args : Array Value} {below : List Frame} {meth : Method} {c : Code} {E : Ev} {r : Int32} {S1 : St} (X : GX p s m meth c args cX6_like 5 (some .int) RX6 E) (N : Nat) : ∀ (n : Nat) (S : St) (x1 : Int32) (x2 : Int32) (x3 : Int32) (x4 : Int32), f_X6_like_29 N n S x1 x2 x3 x4 = some (r, S1) → ∀ (H : Heap) (locs : List Loc), HH E S s H locs → ∀ ls : Array Slot, lv_has ls 5 [(0, .ref (bb E 0)), (1, .int x1), (2, .int x2), (3, .int x3), (4, .int x4)] → W p l e (rmL 57) s m args below meth c H locs 0 0 (MQ below (QI E r S1 s.heap.size) args s 0 0 (AA E s.heap.size)) (F0 m 29 ls []) := by
  have hx := X.1
  have hb := X.2.1
  intro n
  induction n with
  | zero =>
    intro S x1 x2 x3 x4 hf
    cases hf
  | succ n ih =>
    intro S x1 x2 x3 x4 hf H locs hH ls hl
    rw [f_X6_like_29] at hf
    refine lv_iload hx hb dX6_like_29 (lv_at hl 4 rfl) ?_
    refine lv_sipush (v := (nI 7737)) hx hb dX6_like_31 (by decide) ?_
    refine lv_icmp_ge (tgt := 69) hx hb dX6_like_34 (by decide) (fun c0 => ?_) (fun c0 => ?_)
    · replace hf := ite_t c0 hf
      refine lv_iload_n hx hb dX6_like_69 rfl (lv_at hl 3 rfl) ?_
      exact r_iret X hH hf dX6_like_70
    · replace hf := ite_f c0 hf
      refine lv_aload_n hx hb dX6_like_37 rfl (lv_at hl 0 rfl) ?_
      refine fg_X6_12 X hH dX6_like_38 ?_
      refine lv_iload hx hb dX6_like_41 (lv_at hl 4 rfl) ?_
      refine lv_iload_n hx hb dX6_like_43 rfl (lv_at hl 1 rfl) ?_
      obtain ⟨r3, S1, h2, hf⟩ := cal_g hf
      refine go_i hH (run_V X hH (rest := []) (c_X0_lineAfter N S x4 x1 h2) gm_X6_185 (by decide) (e_1 E _) rfl rfl hl.1 (rmL_ok (by decide) (by decide)) (Nat.le_of_ble_eq_true rfl) rfl dX6_like_44) (fun H locs hH => ?_)
      clear h2
      refine lv_aload_n hx hb dX6_like_47 rfl (lv_at hl 0 rfl) ?_
      refine fg_X6_12 X hH dX6_like_48 ?_
      refine lv_iload hx hb dX6_like_51 (lv_at hl 4 rfl) ?_
      refine lv_iload_n hx hb dX6_like_53 rfl (lv_at hl 2 rfl) ?_
      obtain ⟨r6, S4, h5, hf⟩ := cal_g hf
      refine go_i hH (run_V X hH (rest := [.int r3]) (c_X0_lineAfter N S1 x4 x2 h5) gm_X6_185 (by decide) (e_1 E _) rfl rfl hl.1 (rmL_ok (by decide) (by decide)) (Nat.le_of_ble_eq_true rfl) rfl dX6_like_54) (fun H locs hH => ?_)
      clear h5
      refine lv_icmp_ne (tgt := 63) hx hb dX6_like_57 (by decide) (fun c0 => ?_) (fun c0 => ?_)
      · replace hf := ite_f c0 hf
        obtain ⟨y7, ex, hf⟩ := bnd_go hf
        refine lv_iinc (v := y7) (lv' := [(4, .int y7), (0, .ref (bb E 0)), (1, .int x1), (2, .int x2), (3, .int x3)]) hx hb dX6_like_63 hl (k := 4) rfl (by rw [ex]; rfl) (by decide) rfl (fun ls hl => ?_)
        clear ex
        refine lv_goto (tgt := 29) hx hb dX6_like_66 (by decide) ?_
        exact ih S4 x1 x2 x3 y7 hf _ _ hH _ (lv_sub hl [1, 2, 3, 4, 0] rfl)
      · replace hf := ite_t c0 hf
        obtain ⟨y8, ex, hf⟩ := bnd_go hf
        refine lv_iinc (v := y8) (lv' := [(3, .int y8), (0, .ref (bb E 0)), (1, .int x1), (2, .int x2), (4, .int x4)]) hx hb dX6_like_60 hl (k := 3) rfl (by rw [ex]; rfl) (by decide) rfl (fun ls hl => ?_)
        clear ex
        obtain ⟨y9, ex, hf⟩ := bnd_go hf
        refine lv_iinc (v := y9) (lv' := [(4, .int y9), (3, .int y8), (0, .ref (bb E 0)), (1, .int x1), (2, .int x2)]) hx hb dX6_like_63 hl (k := 4) rfl (by rw [ex]; rfl) (by decide) rfl (fun ls hl => ?_)
        clear ex
        refine lv_goto (tgt := 29) hx hb dX6_like_66 (by decide) ?_
        exact ih S4 x1 x2 y8 y9 hf _ _ hH _ (lv_sub hl [2, 3, 4, 1, 0] rfl)
set_option maxRecDepth 100000 in
set_option maxHeartbeats 4000000 in
theorem w_X6_like_0 {p : Program} {l : Launch} {e : Env} {s : State} {m : MethodId} {args : Array Value} {below : List Frame} {meth : Method} {c : Code} {E : Ev} {r : Int32} {S1 : St} (X : GX p s m meth c args cX6_like 5 (some .int) RX6 E) (N : Nat) : ∀ (S : St) (x1 : Int32) (x2 : Int32), f_X6_like N S x1 x2 = some (r, S1) → ∀ (H : Heap) (locs : List Loc), HH E S s H locs → ∀ ls : Array Slot, lv_has ls 5 [(0, .ref (bb E 0)), (1, .int x1), (2, .int x2)] → W p l e (rmL 57) s m args below meth c H locs 0 0 (MQ below (QI E r S1 s.heap.size) args s 0 0 (AA E s.heap.size)) (F0 m 0 ls []) := by
  have hx := X.1
  have hb := X.2.1
  intro S x1 x2 hf H locs hH ls hl
  rw [f_X6_like] at hf
  refine lv_aload_n hx hb dX6_like_0 rfl (lv_at hl 0 rfl) ?_
  refine fg_X6_12 X hH dX6_like_1 ?_
  refine lv_iload_n hx hb dX6_like_4 rfl (lv_at hl 1 rfl) ?_
  obtain ⟨r3, S1, h2, hf⟩ := cal_g hf
  refine go_i hH (run_V X hH (rest := []) (c_X0_isKey N S x1 h2) gm_X6_182 (by decide) (e_1 E _) rfl rfl hl.1 (rmL_ok (by decide) (by decide)) (Nat.le_of_ble_eq_true rfl) rfl dX6_like_5) (fun H locs hH => ?_)
  clear h2
  refine lv_if_eq (tgt := 22) hx hb dX6_like_8 (by decide) (fun c0 => ?_) (fun c0 => ?_)
  · replace hf := ite_t c0 hf
    refine lv_iconst (v := (-1 : Int32)) hx hb dX6_like_22 (by decide) ?_
    exact r_iret X hH hf dX6_like_23
  · replace hf := ite_f c0 hf
    refine lv_aload_n hx hb dX6_like_11 rfl (lv_at hl 0 rfl) ?_
    refine fg_X6_12 X hH dX6_like_12 ?_
    refine lv_iload_n hx hb dX6_like_15 rfl (lv_at hl 2 rfl) ?_
    obtain ⟨r6, S4, h5, hf⟩ := cal_g hf
    refine go_i hH (run_V X hH (rest := []) (c_X0_isKey N S1 x2 h5) gm_X6_182 (by decide) (e_1 E _) rfl rfl hl.1 (rmL_ok (by decide) (by decide)) (Nat.le_of_ble_eq_true rfl) rfl dX6_like_16) (fun H locs hH => ?_)
    clear h5
    refine lv_if_ne (tgt := 24) hx hb dX6_like_19 (by decide) (fun c0 => ?_) (fun c0 => ?_)
    · replace hf := ite_f c0 hf
      refine lv_iconst (v := (nI 0)) hx hb dX6_like_24 (by decide) ?_
      refine lv_topi (fun y7 ex => ?_)
      replace hf := bnd_at ex hf
      clear ex
      refine lv_istore_n (lv' := [(3, .int y7), (0, .ref (bb E 0)), (1, .int x1), (2, .int x2)]) hx hb dX6_like_25 rfl hl (by decide) rfl (fun ls hl => ?_)
      refine lv_iconst (v := (nI 0)) hx hb dX6_like_26 (by decide) ?_
      refine lv_topi (fun y8 ex => ?_)
      replace hf := bnd_at ex hf
      clear ex
      refine lv_istore (lv' := [(4, .int y8), (3, .int y7), (0, .ref (bb E 0)), (1, .int x1), (2, .int x2)]) hx hb dX6_like_27 hl (by decide) rfl (fun ls hl => ?_)
      exact w_X6_like_29 X N N S4 x1 x2 y7 y8 hf _ _ hH _ (lv_sub hl [2, 3, 4, 1, 0] rfl)
    · replace hf := ite_t c0 hf
      refine lv_iconst (v := (-1 : Int32)) hx hb dX6_like_22 (by decide) ?_
      exact r_iret X hH hf dX6_like_23
theorem c_X6_like {l : Launch} {E : Ev} (N : Nat) (S : St) (x1 : Int32) (x2 : Int32) {r : Int32} {S1 : St} (hf : f_X6_like N S x1 x2 = some (r, S1)) : Ct l yX6_like (.code yX6_like cX6_like 5 (some .int)) 57 E [.ref (bb E 0), .int x1, .int x2] S (QI E r S1) := by
  refine Ct.of (by decide) (Nat.le_of_ble_eq_true rfl) (fun p e s m below meth c ls X hH hl => ?_)
  exact w_X6_like_0 X N S x1 x2 hf _ _ hH _ hl
set_option maxRecDepth 100000 in
set_option maxHeartbeats 4000000 in
theorem w_X6_lose_25 {p : Program} {l : Launch} {e : Env} {s : State} {m : MethodId} {args : Array Value} {below : List Frame} {meth : Method} {c : Code} {E : Ev} {r : Int32} {S1 : St} (X : GX p s m meth c args cX6_lose 4 (some .int) RX6 E) (N : Nat) : ∀ (S : St) (j2 : Nat) (xs0 : Int32) (hj2 : j2 < 4), f_X6_lose_25 N S j2 xs0 = some (r, S1) → ∀ (H : Heap) (locs : List Loc), HH E S s H locs → ∀ ls : Array Slot, lv_has ls 4 [(2, .ref (bb E (12 + j2)))] → W p l e (rmL 3) s m args below meth c H locs 0 0 (MQ below (QI E r S1 s.heap.size) args s 0 0 (AA E s.heap.size)) (F0 m 25 ls [.int xs0]) := by
  have hx := X.1
  have hb := X.2.1
  intro S j2 xs0 hj2 hf H locs hH ls hl
  rw [f_X6_lose_25] at hf
  refine lv_istore_n (lv' := [(3, .int xs0), (2, .ref (bb E (12 + j2)))]) hx hb dX6_lose_25 rfl hl (by decide) rfl (fun ls hl => ?_)
  refine lv_aload_n hx hb dX6_lose_26 rfl (lv_at hl 1 rfl) ?_
  refine lv_iconst (v := (-1 : Int32)) hx hb dX6_lose_27 (by decide) ?_
  refine lv_iconst (v := (nI 0)) hx hb dX6_lose_28 (by decide) ?_
  obtain ⟨_, S1, h2, hf⟩ := cal_g hf
  refine go_v hH (run_V X hH (rest := []) (c_X5_renew N S j2 (-1 : Int32) (nI 0) hj2 h2) gm_X6_200 (sh54 hj2) (e_sh E hj2 _) rfl rfl hl.1 (rmL_ok (by decide) (by decide)) (Nat.le_of_ble_eq_true rfl) rfl dX6_lose_29) (fun H locs hH => ?_)
  clear h2
  refine lv_iload_n hx hb dX6_lose_32 rfl (lv_at hl 0 rfl) ?_
  exact r_iret X hH hf dX6_lose_33
set_option maxRecDepth 100000 in
set_option maxHeartbeats 4000000 in
theorem w_X6_lose_0 {p : Program} {l : Launch} {e : Env} {s : State} {m : MethodId} {args : Array Value} {below : List Frame} {meth : Method} {c : Code} {E : Ev} {r : Int32} {S1 : St} (X : GX p s m meth c args cX6_lose 4 (some .int) RX6 E) (N : Nat) : ∀ (S : St) (x1 : Int32), f_X6_lose N S x1 = some (r, S1) → ∀ (H : Heap) (locs : List Loc), HH E S s H locs → ∀ ls : Array Slot, lv_has ls 4 [(0, .ref (bb E 0)), (1, .int x1)] → W p l e (rmL 3) s m args below meth c H locs 0 0 (MQ below (QI E r S1 s.heap.size) args s 0 0 (AA E s.heap.size)) (F0 m 0 ls []) := by
  have hx := X.1
  have hb := X.2.1
  intro S x1 hf H locs hH ls hl
  rw [f_X6_lose] at hf
  refine lv_aload_n hx hb dX6_lose_0 rfl (lv_at hl 0 rfl) ?_
  refine lv_iload_n hx hb dX6_lose_1 rfl (lv_at hl 1 rfl) ?_
  obtain ⟨r3, S1, h2, hf⟩ := cal_g hf
  refine go_q hH (run_V X hH (rest := []) (c_X6_sheetOf N S x1 h2) gm_X6_55 (by decide) (e_0 E _) rfl rfl hl.1 (rmL_ok (by decide) (by decide)) (Nat.le_of_ble_eq_true rfl) rfl dX6_lose_2) (fun H locs hH => ?_)
  clear h2
  cases r3 with
  | none =>
    replace hf := opt_n hf
    refine lv_astore_nN (lv' := [(2, .null), (0, .ref (bb E 0)), (1, .int x1)]) hx hb dX6_lose_5 rfl hl (by decide) rfl (fun ls hl => ?_)
    refine lv_aload_nN hx hb dX6_lose_6 rfl (lv_at hl 0 rfl) ?_
    refine lv_ifnonnullN hx hb dX6_lose_7 ?_
    refine lv_iconst (v := (-1 : Int32)) hx hb dX6_lose_10 (by decide) ?_
    exact r_iret X hH hf dX6_lose_11
  | some j4 =>
    replace hf := opt_s hf
    obtain ⟨hj4, hf⟩ := ite_g hf
    refine lv_astore_n (lv' := [(2, .ref (bb E (12 + j4))), (0, .ref (bb E 0)), (1, .int x1)]) hx hb dX6_lose_5 rfl hl (by decide) rfl (fun ls hl => ?_)
    refine lv_aload_n hx hb dX6_lose_6 rfl (lv_at hl 0 rfl) ?_
    refine lv_ifnonnull (tgt := 12) hx hb dX6_lose_7 (by decide) ?_
    refine lv_aload_n hx hb dX6_lose_12 rfl (lv_at hl 0 rfl) ?_
    refine fg_X6_204 X hH hj4 dX6_lose_13 ?_
    refine lv_iconst (v := (-1 : Int32)) hx hb dX6_lose_16 (by decide) ?_
    refine lv_icmp_ne (tgt := 24) hx hb dX6_lose_17 (by decide) (fun c0 => ?_) (fun c0 => ?_)
    · replace hf := ite_f c0 hf
      refine lv_iconst (v := (nI 1)) hx hb dX6_lose_24 (by decide) ?_
      exact w_X6_lose_25 X N S1 j4 (nI 1) hj4 hf _ _ hH _ (lv_sub hl [0] rfl)
    · replace hf := ite_t c0 hf
      refine lv_iconst (v := (nI 0)) hx hb dX6_lose_20 (by decide) ?_
      refine lv_goto (tgt := 25) hx hb dX6_lose_21 (by decide) ?_
      exact w_X6_lose_25 X N S1 j4 (nI 0) hj4 hf _ _ hH _ (lv_sub hl [0] rfl)
theorem c_X6_lose {l : Launch} {E : Ev} (N : Nat) (S : St) (x1 : Int32) {r : Int32} {S1 : St} (hf : f_X6_lose N S x1 = some (r, S1)) : Ct l yX6_lose (.code yX6_lose cX6_lose 4 (some .int)) 3 E [.ref (bb E 0), .int x1] S (QI E r S1) := by
  refine Ct.of (by decide) (Nat.le_of_ble_eq_true rfl) (fun p e s m below meth c ls X hH hl => ?_)
  exact w_X6_lose_0 X N S x1 hf _ _ hH _ hl
set_option maxRecDepth 100000 in
set_option maxHeartbeats 4000000 in
theorem w_X6_macros_0 {p : Program} {l : Launch} {e : Env} {s : State} {m : MethodId} {args : Array Value} {below : List Frame} {meth : Method} {c : Code} {E : Ev} {r : Int32} {S1 : St} (X : GX p s m meth c args cX6_macros 8 (some .int) RX6 E) (N : Nat) : ∀ (S : St) (x1 : Int32) (x2 : Int32) (x3 : Int32) (x4 : Int32), f_X6_macros N S x1 x2 x3 x4 = some (r, S1) → ∀ (H : Heap) (locs : List Loc), HH E S s H locs → ∀ ls : Array Slot, lv_has ls 8 [(0, .ref (bb E 0)), (1, .int x1), (2, .int x2), (3, .int x3), (4, .int x4)] → W p l e (rmL 5) s m args below meth c H locs 0 0 (MQ below (QI E r S1 s.heap.size) args s 0 0 (AA E s.heap.size)) (F0 m 0 ls []) := by
  have hx := X.1
  have hb := X.2.1
  intro S x1 x2 x3 x4 hf H locs hH ls hl
  rw [f_X6_macros] at hf
  refine lv_aload_n hx hb dX6_macros_0 rfl (lv_at hl 0 rfl) ?_
  refine lv_iconst (v := (nI 0)) hx hb dX6_macros_1 (by decide) ?_
  refine fp_X6_52 X hH dX6_macros_2 (fun H locs hH => ?_)
  obtain ⟨S1, ex, hf⟩ := bnd_go hf
  replace hH := HH_eq ex hH
  clear ex
  refine lv_aload_n hx hb dX6_macros_5 rfl (lv_at hl 0 rfl) ?_
  refine lv_iload_n hx hb dX6_macros_6 rfl (lv_at hl 1 rfl) ?_
  obtain ⟨r4, S2, h3, hf⟩ := cal_g hf
  refine go_q hH (run_V X hH (rest := []) (c_X6_sheetOf N S1 x1 h3) gm_X6_55 (by decide) (e_0 E _) rfl rfl hl.1 (rmL_ok (by decide) (by decide)) (Nat.le_of_ble_eq_true rfl) rfl dX6_macros_7) (fun H locs hH => ?_)
  clear h3
  cases r4 with
  | none =>
    replace hf := opt_n hf
    refine lv_astoreN (lv' := [(5, .null), (0, .ref (bb E 0)), (1, .int x1), (2, .int x2), (3, .int x3), (4, .int x4)]) hx hb dX6_macros_10 hl (by decide) rfl (fun ls hl => ?_)
    refine lv_aloadN hx hb dX6_macros_12 (lv_at hl 0 rfl) ?_
    refine lv_ifnonnullN hx hb dX6_macros_14 ?_
    refine lv_iconst (v := (-1 : Int32)) hx hb dX6_macros_17 (by decide) ?_
    exact r_iret X hH hf dX6_macros_18
  | some j5 =>
    replace hf := opt_s hf
    obtain ⟨hj5, hf⟩ := ite_g hf
    refine lv_astore (lv' := [(5, .ref (bb E (12 + j5))), (0, .ref (bb E 0)), (1, .int x1), (2, .int x2), (3, .int x3), (4, .int x4)]) hx hb dX6_macros_10 hl (by decide) rfl (fun ls hl => ?_)
    refine lv_aload hx hb dX6_macros_12 (lv_at hl 0 rfl) ?_
    refine lv_ifnonnull (tgt := 19) hx hb dX6_macros_14 (by decide) ?_
    refine lv_iload_n hx hb dX6_macros_19 rfl (lv_at hl 3 rfl) ?_
    obtain ⟨r8, S6, h7, hf⟩ := cal_g hf
    refine go_i hH (run_S X hH (rest := []) (c_X6_isLane N S2 x2 h7) gm_X6_59 rfl hl.1 (rmL_ok (by decide) (by decide)) (Nat.le_of_ble_eq_true rfl) rfl dX6_macros_20) (fun H locs hH => ?_)
    clear h7
    refine lv_if_ne (tgt := 29) hx hb dX6_macros_23 (by decide) (fun c0 => ?_) (fun c0 => ?_)
    · replace hf := ite_f c0 hf
      refine lv_aload hx hb dX6_macros_29 (lv_at hl 0 rfl) ?_
      refine lv_iload_n hx hb dX6_macros_31 rfl (lv_at hl 3 rfl) ?_
      refine lv_iload_n hx hb dX6_macros_32 rfl (lv_at hl 4 rfl) ?_
      refine lv_iload hx hb dX6_macros_33 (lv_at hl 5 rfl) ?_
      obtain ⟨r11, S9, h10, hf⟩ := cal_g hf
      refine go_i hH (run_V X hH (rest := []) (c_X5_faultOf N S6 j5 x2 x3 x4 hj5 h10) gm_X6_63 (sh54 hj5) (e_sh E hj5 _) rfl rfl hl.1 (rmL_ok (by decide) (by decide)) (Nat.le_of_ble_eq_true rfl) rfl dX6_macros_35) (fun H locs hH => ?_)
      clear h10
      refine lv_istore (lv' := [(6, .int r11), (5, .ref (bb E (12 + j5))), (0, .ref (bb E 0)), (1, .int x1), (2, .int x2), (3, .int x3), (4, .int x4)]) hx hb dX6_macros_38 hl (by decide) rfl (fun ls hl => ?_)
      refine lv_iload hx hb dX6_macros_40 (lv_at hl 0 rfl) ?_
      refine lv_if_eq (tgt := 52) hx hb dX6_macros_42 (by decide) (fun c0 => ?_) (fun c0 => ?_)
      · replace hf := ite_t c0 hf
        refine lv_aload_n hx hb dX6_macros_52 rfl (lv_at hl 2 rfl) ?_
        refine fg_X6_21 X hH dX6_macros_53 ?_
        refine lv_aload hx hb dX6_macros_56 (lv_at hl 1 rfl) ?_
        refine lv_iload_n hx hb dX6_macros_58 rfl (lv_at hl 5 rfl) ?_
        refine lv_iload hx hb dX6_macros_59 (lv_at hl 6 rfl) ?_
        obtain ⟨r14, S12, h13, hf⟩ := cal_g hf
        refine go_i hH (run_V X hH (rest := []) (c_X3_firstFault N S9 j5 x3 x4 hj5 h13) gm_X6_71 (by decide) (e_4 E _) rfl rfl hl.1 (rmL_ok (by decide) (by decide)) (Nat.le_of_ble_eq_true rfl) rfl dX6_macros_61) (fun H locs hH => ?_)
        clear h13
        refine lv_istore (lv' := [(7, .int r14), (6, .int r11), (5, .ref (bb E (12 + j5))), (0, .ref (bb E 0)), (1, .int x1), (2, .int x2), (3, .int x3), (4, .int x4)]) hx hb dX6_macros_64 hl (by decide) rfl (fun ls hl => ?_)
        refine lv_iload hx hb dX6_macros_66 (lv_at hl 0 rfl) ?_
        refine lv_bipush (v := (-9 : Int32)) hx hb dX6_macros_68 (by decide) ?_
        refine lv_icmp_eq (tgt := 79) hx hb dX6_macros_70 (by decide) (fun c0 => ?_) (fun c0 => ?_)
        · replace hf := ite_t c0 hf
          refine lv_aload_n hx hb dX6_macros_79 rfl (lv_at hl 3 rfl) ?_
          refine fg_X6_12 X hH dX6_macros_80 ?_
          refine lv_aload_n hx hb dX6_macros_83 rfl (lv_at hl 3 rfl) ?_
          refine fg_X6_21 X hH dX6_macros_84 ?_
          obtain ⟨_, S15, h16, hf⟩ := cal_g hf
          refine go_v hH (run_V X hH (rest := []) (c_X0_become N S12 h16) gm_X6_75 (by decide) (e_1 E _) rfl rfl hl.1 (rmL_ok (by decide) (by decide)) (Nat.le_of_ble_eq_true rfl) rfl dX6_macros_87) (fun H locs hH => ?_)
          clear h16
          refine lv_aload_n hx hb dX6_macros_90 rfl (lv_at hl 3 rfl) ?_
          refine lv_iconst (v := (nI 0)) hx hb dX6_macros_91 (by decide) ?_
          refine fp_X6_48 X hH dX6_macros_92 (fun H locs hH => ?_)
          obtain ⟨S18, ex, hf⟩ := bnd_go hf
          replace hH := HH_eq ex hH
          clear ex
          refine lv_aload_n hx hb dX6_macros_95 rfl (lv_at hl 3 rfl) ?_
          refine lv_iconst (v := (nI 0)) hx hb dX6_macros_96 (by decide) ?_
          refine fp_X6_79 X hH dX6_macros_97 (fun H locs hH => ?_)
          obtain ⟨S19, ex, hf⟩ := bnd_go hf
          replace hH := HH_eq ex hH
          clear ex
          refine lv_aload_n hx hb dX6_macros_100 rfl (lv_at hl 3 rfl) ?_
          refine lv_iconst (v := (nI 0)) hx hb dX6_macros_101 (by decide) ?_
          refine fp_X6_82 X hH dX6_macros_102 (fun H locs hH => ?_)
          obtain ⟨S20, ex, hf⟩ := bnd_go hf
          replace hH := HH_eq ex hH
          clear ex
          refine lv_aload_n hx hb dX6_macros_105 rfl (lv_at hl 3 rfl) ?_
          refine fg_X6_12 X hH dX6_macros_106 ?_
          refine fg_X6_85 X hH dX6_macros_109 ?_
          exact r_iret X hH hf dX6_macros_112
        · replace hf := ite_f c0 hf
          refine lv_bipush (v := (-100 : Int32)) hx hb dX6_macros_73 (by decide) ?_
          refine lv_iload hx hb dX6_macros_75 (lv_at hl 0 rfl) ?_
          refine lv_isub hx hb dX6_macros_77 ?_
          exact r_iret X hH hf dX6_macros_78
      · replace hf := ite_f c0 hf
        refine lv_aload_n hx hb dX6_macros_45 rfl (lv_at hl 2 rfl) ?_
        refine lv_iload hx hb dX6_macros_46 (lv_at hl 0 rfl) ?_
        obtain ⟨r23, S21, h22, hf⟩ := cal_g hf
        refine go_i hH (run_V X hH (rest := []) (c_X6_meet N S9 r11 h22) gm_X6_67 (by decide) (e_0 E _) rfl rfl hl.1 (rmL_ok (by decide) (by decide)) (Nat.le_of_ble_eq_true rfl) rfl dX6_macros_48) (fun H locs hH => ?_)
        clear h22
        exact r_iret X hH hf dX6_macros_51
    · replace hf := ite_t c0 hf
      refine lv_bipush (v := (-2 : Int32)) hx hb dX6_macros_26 (by decide) ?_
      exact r_iret X hH hf dX6_macros_28
theorem c_X6_macros {l : Launch} {E : Ev} (N : Nat) (S : St) (x1 : Int32) (x2 : Int32) (x3 : Int32) (x4 : Int32) {r : Int32} {S1 : St} (hf : f_X6_macros N S x1 x2 x3 x4 = some (r, S1)) : Ct l yX6_macros (.code yX6_macros cX6_macros 8 (some .int)) 5 E [.ref (bb E 0), .int x1, .int x2, .int x3, .int x4] S (QI E r S1) := by
  refine Ct.of (by decide) (Nat.le_of_ble_eq_true rfl) (fun p e s m below meth c ls X hH hl => ?_)
  exact w_X6_macros_0 X N S x1 x2 x3 x4 hf _ _ hH _ hl
set_option maxRecDepth 100000 in
set_option maxHeartbeats 4000000 in
theorem w_X6_many_0 {p : Program} {l : Launch} {e : Env} {s : State} {m : MethodId} {args : Array Value} {below : List Frame} {meth : Method} {c : Code} {E : Ev} {r : Int32} {S1 : St} (X : GX p s m meth c args cX6_many 2 (some .int) RX6 E) (N : Nat) : ∀ (S : St) (x1 : Int32), f_X6_many N S x1 = some (r, S1) → ∀ (H : Heap) (locs : List Loc), HH E S s H locs → ∀ ls : Array Slot, lv_has ls 2 [(0, .ref (bb E 0)), (1, .int x1)] → W p l e (rmL 3) s m args below meth c H locs 0 0 (MQ below (QI E r S1 s.heap.size) args s 0 0 (AA E s.heap.size)) (F0 m 0 ls []) := by
  have hx := X.1
  have hb := X.2.1
  intro S x1 hf H locs hH ls hl
  rw [f_X6_many] at hf
  refine lv_iload_n hx hb dX6_many_0 rfl (lv_at hl 1 rfl) ?_
  refine lv_topi (fun y1 ex => ?_)
  replace hf := bnd_at ex hf
  clear ex
  by_cases c0 : y1 = (nI 0)
  · replace hf := ite_t c0 hf
    subst c0
    refine lv_tableIn (tgt := 36) hx hb dX6_many_1 (by decide) (by decide) rfl (by decide) ?_
    refine lv_aload_n hx hb dX6_many_36 rfl (lv_at hl 0 rfl) ?_
    refine fg_X6_12 X hH dX6_many_37 ?_
    refine fg_X6_85 X hH dX6_many_40 ?_
    exact r_iret X hH hf dX6_many_43
  · replace hf := ite_f c0 hf
    by_cases c1 : y1 = (nI 1)
    · replace hf := ite_t c1 hf
      subst c1
      refine lv_tableIn (tgt := 44) hx hb dX6_many_1 (by decide) (by decide) rfl (by decide) ?_
      refine lv_aload_n hx hb dX6_many_44 rfl (lv_at hl 0 rfl) ?_
      refine fg_X6_48 X hH dX6_many_45 ?_
      obtain ⟨r4, S2, h3, hf⟩ := cal_g hf
      refine go_i hH (run_S X hH (rest := []) (c_X1_countOf N S (S 0 7) h3) gm_X6_130 rfl hl.1 (rmL_ok (by decide) (by decide)) (Nat.le_of_ble_eq_true rfl) rfl dX6_many_48) (fun H locs hH => ?_)
      clear h3
      exact r_iret X hH hf dX6_many_51
    · replace hf := ite_f c1 hf
      by_cases c2 : y1 = (nI 2)
      · replace hf := ite_t c2 hf
        subst c2
        refine lv_tableIn (tgt := 52) hx hb dX6_many_1 (by decide) (by decide) rfl (by decide) ?_
        refine lv_aload_n hx hb dX6_many_52 rfl (lv_at hl 0 rfl) ?_
        refine fg_X6_48 X hH dX6_many_53 ?_
        obtain ⟨r7, S5, h6, hf⟩ := cal_g hf
        refine go_i hH (run_S X hH (rest := []) (c_X1_cursorOf N S (S 0 7) h6) gm_X6_153 rfl hl.1 (rmL_ok (by decide) (by decide)) (Nat.le_of_ble_eq_true rfl) rfl dX6_many_56) (fun H locs hH => ?_)
        clear h6
        exact r_iret X hH hf dX6_many_59
      · replace hf := ite_f c2 hf
        by_cases c3 : y1 = (nI 3)
        · replace hf := ite_t c3 hf
          subst c3
          refine lv_tableIn (tgt := 60) hx hb dX6_many_1 (by decide) (by decide) rfl (by decide) ?_
          refine lv_aload_n hx hb dX6_many_60 rfl (lv_at hl 0 rfl) ?_
          refine fg_X6_79 X hH dX6_many_61 ?_
          exact r_iret X hH hf dX6_many_64
        · replace hf := ite_f c3 hf
          by_cases c4 : y1 = (nI 4)
          · replace hf := ite_t c4 hf
            subst c4
            refine lv_tableIn (tgt := 65) hx hb dX6_many_1 (by decide) (by decide) rfl (by decide) ?_
            refine lv_aload_n hx hb dX6_many_65 rfl (lv_at hl 0 rfl) ?_
            refine fg_X6_82 X hH dX6_many_66 ?_
            exact r_iret X hH hf dX6_many_69
          · replace hf := ite_f c4 hf
            refine lv_tableOut (tgt := 70) hx hb dX6_many_1 (by have t0 : y1.toInt ≠ 0 := i32_ne c0; have t1 : y1.toInt ≠ 1 := i32_ne c1; have t2 : y1.toInt ≠ 2 := i32_ne c2; have t3 : y1.toInt ≠ 3 := i32_ne c3; have t4 : y1.toInt ≠ 4 := i32_ne c4; omega) (by decide) ?_
            refine lv_bipush (v := (-2 : Int32)) hx hb dX6_many_70 (by decide) ?_
            exact r_iret X hH hf dX6_many_72
theorem c_X6_many {l : Launch} {E : Ev} (N : Nat) (S : St) (x1 : Int32) {r : Int32} {S1 : St} (hf : f_X6_many N S x1 = some (r, S1)) : Ct l yX6_many (.code yX6_many cX6_many 2 (some .int)) 3 E [.ref (bb E 0), .int x1] S (QI E r S1) := by
  refine Ct.of (by decide) (Nat.le_of_ble_eq_true rfl) (fun p e s m below meth c ls X hH hl => ?_)
  exact w_X6_many_0 X N S x1 hf _ _ hH _ hl
set_option maxRecDepth 100000 in
set_option maxHeartbeats 4000000 in
theorem w_X6_rowsToEmpty_21 {p : Program} {l : Launch} {e : Env} {s : State} {m : MethodId} {args : Array Value} {below : List Frame} {meth : Method} {c : Code} {E : Ev} {r : Int32} {S1 : St} (X : GX p s m meth c args cX6_rowsToEmpty 4 (some .int) RX6 E) (N : Nat) {kr : Nat} (fe : St → Int32 → Int32 → Option (Int32 × St)) (hfe : ∀ (S : St) (x0 : Int32) (x1 : Int32) (r : Int32) (S1 : St), fe S x0 x1 = some (r, S1) → Ct l yX6_rowsToEmpty (.code yX6_rowsToEmpty cX6_rowsToEmpty 4 (some .int)) kr E [.int x0, .int x1] S (QI E r S1)) : ∀ (n : Nat) (S : St) (x0 : Int32) (x1 : Int32) (x2 : Int32) (x3 : Int32), f_X6_rowsToEmpty_21 N fe n S x0 x1 x2 x3 = some (r, S1) → ∀ (H : Heap) (locs : List Loc), HH E S s H locs → ∀ ls : Array Slot, lv_has ls 4 [(0, .int x0), (1, .int x1), (2, .int x2), (3, .int x3)] → W p l e (rmL (kr + 11)) s m args below meth c H locs 0 0 (MQ below (QI E r S1 s.heap.size) args s 0 0 (AA E s.heap.size)) (F0 m 21 ls []) := by
  have hx := X.1
  have hb := X.2.1
  intro n
  induction n with
  | zero =>
    intro S x0 x1 x2 x3 hf
    cases hf
  | succ n ih =>
    intro S x0 x1 x2 x3 hf H locs hH ls hl
    rw [f_X6_rowsToEmpty_21] at hf
    refine lv_iload_n hx hb dX6_rowsToEmpty_21 rfl (lv_at hl 3 rfl) ?_
    refine lv_bipush (v := (nI 8)) hx hb dX6_rowsToEmpty_22 (by decide) ?_
    refine lv_icmp_ge (tgt := 47) hx hb dX6_rowsToEmpty_24 (by decide) (fun c0 => ?_) (fun c0 => ?_)
    · replace hf := ite_t c0 hf
      refine lv_iload_n hx hb dX6_rowsToEmpty_47 rfl (lv_at hl 2 rfl) ?_
      exact r_iret X hH hf dX6_rowsToEmpty_48
    · replace hf := ite_f c0 hf
      refine lv_iload_n hx hb dX6_rowsToEmpty_27 rfl (lv_at hl 2 rfl) ?_
      refine lv_iload_n hx hb dX6_rowsToEmpty_28 rfl (lv_at hl 0 rfl) ?_
      refine lv_iload_n hx hb dX6_rowsToEmpty_29 rfl (lv_at hl 3 rfl) ?_
      obtain ⟨r3, S1, h2, hf⟩ := cal_g hf
      refine go_i hH (run_S X hH (rest := [.int x2]) (c_X1_after N S x0 x3 h2) gm_X6_117 rfl hl.1 (rmL_ok (by omega) (by decide)) (Nat.le_of_ble_eq_true rfl) rfl dX6_rowsToEmpty_30) (fun H locs hH => ?_)
      clear h2
      refine lv_iload_n hx hb dX6_rowsToEmpty_33 rfl (lv_at hl 1 rfl) ?_
      refine lv_iconst (v := (nI 1)) hx hb dX6_rowsToEmpty_34 (by decide) ?_
      refine lv_isub hx hb dX6_rowsToEmpty_35 ?_
      obtain ⟨r6, S4, h5, hf⟩ := cal_g hf
      refine go_i hH (run_S X hH (rest := [.int x2]) (hfe S1 r3 (x1 - (nI 1)) _ _ h5) gm_X6_197 rfl hl.1 (rmL_ok (by omega) (by decide)) (Nat.le_of_ble_eq_true rfl) rfl dX6_rowsToEmpty_36) (fun H locs hH => ?_)
      clear h5
      refine lv_iadd hx hb dX6_rowsToEmpty_39 ?_
      refine lv_topi (fun y7 ex => ?_)
      replace hf := bnd_at ex hf
      clear ex
      refine lv_istore_n (lv' := [(2, .int y7), (0, .int x0), (1, .int x1), (3, .int x3)]) hx hb dX6_rowsToEmpty_40 rfl hl (by decide) rfl (fun ls hl => ?_)
      obtain ⟨y8, ex, hf⟩ := bnd_go hf
      refine lv_iinc (v := y8) (lv' := [(3, .int y8), (2, .int y7), (0, .int x0), (1, .int x1)]) hx hb dX6_rowsToEmpty_41 hl (k := 3) rfl (by rw [ex]; rfl) (by decide) rfl (fun ls hl => ?_)
      clear ex
      refine lv_goto (tgt := 21) hx hb dX6_rowsToEmpty_44 (by decide) ?_
      exact ih S4 x0 x1 y7 y8 hf _ _ hH _ (lv_sub hl [2, 3, 1, 0] rfl)
set_option maxRecDepth 100000 in
set_option maxHeartbeats 4000000 in
theorem w_X6_rowsToEmpty_0 {p : Program} {l : Launch} {e : Env} {s : State} {m : MethodId} {args : Array Value} {below : List Frame} {meth : Method} {c : Code} {E : Ev} {r : Int32} {S1 : St} (X : GX p s m meth c args cX6_rowsToEmpty 4 (some .int) RX6 E) (N : Nat) {kr : Nat} (fe : St → Int32 → Int32 → Option (Int32 × St)) (hfe : ∀ (S : St) (x0 : Int32) (x1 : Int32) (r : Int32) (S1 : St), fe S x0 x1 = some (r, S1) → Ct l yX6_rowsToEmpty (.code yX6_rowsToEmpty cX6_rowsToEmpty 4 (some .int)) kr E [.int x0, .int x1] S (QI E r S1)) : ∀ (S : St) (x0 : Int32) (x1 : Int32), f_X6_rowsToEmpty N fe S x0 x1 = some (r, S1) → ∀ (H : Heap) (locs : List Loc), HH E S s H locs → ∀ ls : Array Slot, lv_has ls 4 [(0, .int x0), (1, .int x1)] → W p l e (rmL (kr + 11)) s m args below meth c H locs 0 0 (MQ below (QI E r S1 s.heap.size) args s 0 0 (AA E s.heap.size)) (F0 m 0 ls []) := by
  have hx := X.1
  have hb := X.2.1
  intro S x0 x1 hf H locs hH ls hl
  rw [f_X6_rowsToEmpty] at hf
  refine lv_iload_n hx hb dX6_rowsToEmpty_0 rfl (lv_at hl 1 rfl) ?_
  refine lv_if_gt (tgt := 17) hx hb dX6_rowsToEmpty_1 (by decide) (fun c0 => ?_) (fun c0 => ?_)
  · replace hf := ite_t c0 hf
    refine lv_iconst (v := (nI 0)) hx hb dX6_rowsToEmpty_17 (by decide) ?_
    refine lv_topi (fun y1 ex => ?_)
    replace hf := bnd_at ex hf
    clear ex
    refine lv_istore_n (lv' := [(2, .int y1), (0, .int x0), (1, .int x1)]) hx hb dX6_rowsToEmpty_18 rfl hl (by decide) rfl (fun ls hl => ?_)
    refine lv_iconst (v := (nI 0)) hx hb dX6_rowsToEmpty_19 (by decide) ?_
    refine lv_topi (fun y2 ex => ?_)
    replace hf := bnd_at ex hf
    clear ex
    refine lv_istore_n (lv' := [(3, .int y2), (2, .int y1), (0, .int x0), (1, .int x1)]) hx hb dX6_rowsToEmpty_20 rfl hl (by decide) rfl (fun ls hl => ?_)
    exact w_X6_rowsToEmpty_21 X N fe hfe N S x0 x1 y1 y2 hf _ _ hH _ (lv_sub hl [2, 3, 1, 0] rfl)
  · replace hf := ite_f c0 hf
    refine lv_iload_n hx hb dX6_rowsToEmpty_4 rfl (lv_at hl 0 rfl) ?_
    obtain ⟨r5, S3, h4, hf⟩ := cal_g hf
    refine go_i hH (run_S X hH (rest := []) (c_X1_countOf N S x0 h4) gm_X6_130 rfl hl.1 (rmL_ok (by omega) (by decide)) (Nat.le_of_ble_eq_true rfl) rfl dX6_rowsToEmpty_5) (fun H locs hH => ?_)
    clear h4
    refine lv_if_ne (tgt := 15) hx hb dX6_rowsToEmpty_8 (by decide) (fun c0 => ?_) (fun c0 => ?_)
    · replace hf := ite_f c0 hf
      refine lv_iconst (v := (nI 0)) hx hb dX6_rowsToEmpty_15 (by decide) ?_
      exact r_iret X hH hf dX6_rowsToEmpty_16
    · replace hf := ite_t c0 hf
      refine lv_iconst (v := (nI 1)) hx hb dX6_rowsToEmpty_11 (by decide) ?_
      refine lv_goto (tgt := 16) hx hb dX6_rowsToEmpty_12 (by decide) ?_
      exact r_iret X hH hf dX6_rowsToEmpty_16
theorem c_X6_rowsToEmpty {l : Launch} {E : Ev} (N : Nat) {kr : Nat} (fe : St → Int32 → Int32 → Option (Int32 × St)) (hfe : ∀ (S : St) (x0 : Int32) (x1 : Int32) (r : Int32) (S1 : St), fe S x0 x1 = some (r, S1) → Ct l yX6_rowsToEmpty (.code yX6_rowsToEmpty cX6_rowsToEmpty 4 (some .int)) kr E [.int x0, .int x1] S (QI E r S1)) (S : St) (x0 : Int32) (x1 : Int32) {r : Int32} {S1 : St} (hf : f_X6_rowsToEmpty N fe S x0 x1 = some (r, S1)) : Ct l yX6_rowsToEmpty (.code yX6_rowsToEmpty cX6_rowsToEmpty 4 (some .int)) (kr + 11) E [.int x0, .int x1] S (QI E r S1) := by
  refine Ct.of (by decide) (Nat.le_of_ble_eq_true rfl) (fun p e s m below meth c ls X hH hl => ?_)
  exact w_X6_rowsToEmpty_0 X N fe hfe S x0 x1 hf _ _ hH _ hl
theorem cg_X6_rowsToEmpty {l : Launch} {E : Ev} (d N : Nat) : ∀ (S : St) (x0 : Int32) (x1 : Int32) {r : Int32} {S1 : St}, g_X6_rowsToEmpty N d S x0 x1 = some (r, S1) → Ct l yX6_rowsToEmpty (.code yX6_rowsToEmpty cX6_rowsToEmpty 4 (some .int)) (11 * d) E [.int x0, .int x1] S (QI E r S1) := by
  induction d with
  | zero =>
    intro S x0 x1 r S1 hf
    cases hf
  | succ d ih =>
    intro S x0 x1 r S1 hf
    have h := c_X6_rowsToEmpty (l := l) (E := E) (kr := 11 * d) N (g_X6_rowsToEmpty N d) (fun S x0 x1 r S1 h => ih S x0 x1 h) S x0 x1 hf
    exact (show 11 * d + 11 = 11 * (d + 1) from by omega) ▸ h
set_option maxRecDepth 100000 in
set_option maxHeartbeats 4000000 in
theorem w_X6_odds_63 {p : Program} {l : Launch} {e : Env} {s : State} {m : MethodId} {args : Array Value} {below : List Frame} {meth : Method} {c : Code} {E : Ev} {r : Int64} {S1 : St} (X : GX p s m meth c args cX6_odds 5 (some .long) RX6 E) (N : Nat) : ∀ (S : St) (x2 : Int32) (x3 : Int32) (x4 : Int32), f_X6_odds_63 N S x2 x3 x4 = some (r, S1) → ∀ (H : Heap) (locs : List Loc), HH E S s H locs → ∀ ls : Array Slot, lv_has ls 5 [(2, .int x2), (3, .int x3), (4, .int x4)] → W p l e (rmL 56) s m args below meth c H locs 0 0 (MQ below (QL E r S1 s.heap.size) args s 0 0 (AA E s.heap.size)) (F0 m 63 ls []) := by
  have hx := X.1
  have hb := X.2.1
  intro S x2 x3 x4 hf H locs hH ls hl
  rw [f_X6_odds_63] at hf
  refine lv_iload_n hx hb dX6_odds_63 rfl (lv_at hl 0 rfl) ?_
  refine lv_if_ne (tgt := 72) hx hb dX6_odds_64 (by decide) (fun c0 => ?_) (fun c0 => ?_)
  · replace hf := ite_f c0 hf
    refine lv_iload hx hb dX6_odds_72 (lv_at hl 2 rfl) ?_
    refine lv_i2l hx hb dX6_odds_74 rfl ?_
    exact r_lret X hH hf dX6_odds_75
  · replace hf := ite_t c0 hf
    refine lv_iload_n hx hb dX6_odds_67 rfl (lv_at hl 1 rfl) ?_
    refine lv_i2l hx hb dX6_odds_68 rfl ?_
    refine lv_goto (tgt := 75) hx hb dX6_odds_69 (by decide) ?_
    exact r_lret X hH hf dX6_odds_75
set_option maxRecDepth 100000 in
set_option maxHeartbeats 4000000 in
theorem w_X6_odds_38 {p : Program} {l : Launch} {e : Env} {s : State} {m : MethodId} {args : Array Value} {below : List Frame} {meth : Method} {c : Code} {E : Ev} {r : Int64} {S1 : St} (X : GX p s m meth c args cX6_odds 5 (some .long) RX6 E) (N : Nat) : ∀ (n : Nat) (S : St) (x2 : Int32) (x3 : Int32) (x4 : Int32), f_X6_odds_38 N n S x2 x3 x4 = some (r, S1) → ∀ (H : Heap) (locs : List Loc), HH E S s H locs → ∀ ls : Array Slot, lv_has ls 5 [(2, .int x2), (3, .int x3), (4, .int x4)] → W p l e (rmL 56) s m args below meth c H locs 0 0 (MQ below (QL E r S1 s.heap.size) args s 0 0 (AA E s.heap.size)) (F0 m 38 ls []) := by
  have hx := X.1
  have hb := X.2.1
  intro n
  induction n with
  | zero =>
    intro S x2 x3 x4 hf
    cases hf
  | succ n ih =>
    intro S x2 x3 x4 hf H locs hH ls hl
    rw [f_X6_odds_38] at hf
    refine lv_iload hx hb dX6_odds_38 (lv_at hl 2 rfl) ?_
    refine lv_iconst (v := (nI 1)) hx hb dX6_odds_40 (by decide) ?_
    refine lv_icmp_le (tgt := 63) hx hb dX6_odds_41 (by decide) (fun c0 => ?_) (fun c0 => ?_)
    · replace hf := ite_t c0 hf
      exact w_X6_odds_63 X N S x2 x3 x4 hf _ _ hH _ (lv_sub hl [0, 1, 2] rfl)
    · replace hf := ite_f c0 hf
      refine lv_iload_n hx hb dX6_odds_44 rfl (lv_at hl 1 rfl) ?_
      refine lv_iconst (v := (nI 2)) hx hb dX6_odds_45 (by decide) ?_
      refine lv_irem hx hb dX6_odds_46 (by decide) ?_
      refine lv_if_ne (tgt := 63) hx hb dX6_odds_47 (by decide) (fun c0 => ?_) (fun c0 => ?_)
      · replace hf := ite_f c0 hf
        exact w_X6_odds_63 X N S x2 x3 x4 hf _ _ hH _ (lv_sub hl [0, 1, 2] rfl)
      · replace hf := ite_t c0 hf
        refine lv_iload_n hx hb dX6_odds_50 rfl (lv_at hl 1 rfl) ?_
        refine lv_iconst (v := (nI 2)) hx hb dX6_odds_51 (by decide) ?_
        refine lv_idiv hx hb dX6_odds_52 (by decide) ?_
        refine lv_topi (fun y1 ex => ?_)
        replace hf := bnd_at ex hf
        clear ex
        refine lv_istore_n (lv' := [(3, .int y1), (2, .int x2), (4, .int x4)]) hx hb dX6_odds_53 rfl hl (by decide) rfl (fun ls hl => ?_)
        refine lv_iload hx hb dX6_odds_54 (lv_at hl 2 rfl) ?_
        refine lv_iconst (v := (nI 2)) hx hb dX6_odds_56 (by decide) ?_
        refine lv_idiv hx hb dX6_odds_57 (by decide) ?_
        refine lv_topi (fun y2 ex => ?_)
        replace hf := bnd_at ex hf
        clear ex
        refine lv_istore (lv' := [(4, .int y2), (3, .int y1), (2, .int x2)]) hx hb dX6_odds_58 hl (by decide) rfl (fun ls hl => ?_)
        refine lv_goto (tgt := 38) hx hb dX6_odds_60 (by decide) ?_
        exact ih S x2 y1 y2 hf _ _ hH _ (lv_sub hl [2, 1, 0] rfl)
set_option maxRecDepth 100000 in
set_option maxHeartbeats 4000000 in
theorem w_X6_odds_22 {p : Program} {l : Launch} {e : Env} {s : State} {m : MethodId} {args : Array Value} {below : List Frame} {meth : Method} {c : Code} {E : Ev} {r : Int64} {S1 : St} (X : GX p s m meth c args cX6_odds 5 (some .long) RX6 E) (N : Nat) : ∀ (S : St) (x1 : Int32) (x2 : Int32), f_X6_odds_22 N S x1 x2 = some (r, S1) → ∀ (H : Heap) (locs : List Loc), HH E S s H locs → ∀ ls : Array Slot, lv_has ls 5 [(0, .ref (bb E 0)), (1, .int x1), (2, .int x2)] → W p l e (rmL 56) s m args below meth c H locs 0 0 (MQ below (QL E r S1 s.heap.size) args s 0 0 (AA E s.heap.size)) (F0 m 22 ls []) := by
  have hx := X.1
  have hb := X.2.1
  intro S x1 x2 hf H locs hH ls hl
  rw [f_X6_odds_22] at hf
  refine lv_aload_n hx hb dX6_odds_22 rfl (lv_at hl 0 rfl) ?_
  refine fg_X6_48 X hH dX6_odds_23 ?_
  refine lv_iload_n hx hb dX6_odds_26 rfl (lv_at hl 1 rfl) ?_
  obtain ⟨r3, S1, h2, hf⟩ := cal_g hf
  refine go_i hH (run_S X hH (rest := []) (cg_X6_rowsToEmpty 5 N S (S 0 7) x1 h2) gm_X6_197 rfl hl.1 (rmL_ok (by decide) (by decide)) (Nat.le_of_ble_eq_true rfl) rfl dX6_odds_27) (fun H locs hH => ?_)
  clear h2
  refine lv_istore_n (lv' := [(3, .int r3), (0, .ref (bb E 0)), (1, .int x1), (2, .int x2)]) hx hb dX6_odds_30 rfl hl (by decide) rfl (fun ls hl => ?_)
  refine lv_iconst (v := (nI 1)) hx hb dX6_odds_31 (by decide) ?_
  refine lv_iconst (v := (nI 3)) hx hb dX6_odds_32 (by decide) ?_
  refine lv_iload_n hx hb dX6_odds_33 rfl (lv_at hl 2 rfl) ?_
  refine lv_imul hx hb dX6_odds_34 ?_
  refine lv_ishl hx hb dX6_odds_35 ?_
  refine lv_topi (fun y4 ex => ?_)
  replace hf := bnd_at ex hf
  clear ex
  refine lv_istore (lv' := [(4, .int y4), (3, .int r3), (0, .ref (bb E 0)), (1, .int x1), (2, .int x2)]) hx hb dX6_odds_36 hl (by decide) rfl (fun ls hl => ?_)
  exact w_X6_odds_38 X N N S1 x2 r3 y4 hf _ _ hH _ (lv_sub hl [4, 1, 0] rfl)
set_option maxRecDepth 100000 in
set_option maxHeartbeats 4000000 in
theorem w_X6_odds_0 {p : Program} {l : Launch} {e : Env} {s : State} {m : MethodId} {args : Array Value} {below : List Frame} {meth : Method} {c : Code} {E : Ev} {r : Int64} {S1 : St} (X : GX p s m meth c args cX6_odds 5 (some .long) RX6 E) (N : Nat) : ∀ (S : St) (x1 : Int32) (x2 : Int32), f_X6_odds N S x1 x2 = some (r, S1) → ∀ (H : Heap) (locs : List Loc), HH E S s H locs → ∀ ls : Array Slot, lv_has ls 5 [(0, .ref (bb E 0)), (1, .int x1), (2, .int x2)] → W p l e (rmL 56) s m args below meth c H locs 0 0 (MQ below (QL E r S1 s.heap.size) args s 0 0 (AA E s.heap.size)) (F0 m 0 ls []) := by
  have hx := X.1
  have hb := X.2.1
  intro S x1 x2 hf H locs hH ls hl
  rw [f_X6_odds] at hf
  refine lv_iload_n hx hb dX6_odds_0 rfl (lv_at hl 1 rfl) ?_
  refine lv_if_lt (tgt := 18) hx hb dX6_odds_1 (by decide) (fun c0 => ?_) (fun c0 => ?_)
  · replace hf := ite_t c0 hf
    refine lv_ldc2 (v := (-9223372036854775808 : Int64)) hx hb X.2.2.2.1 (X.2.2.2.2.1 _ q_26_9) dX6_odds_18 ?_
    exact r_lret X hH hf dX6_odds_21
  · replace hf := ite_f c0 hf
    refine lv_iload_n hx hb dX6_odds_4 rfl (lv_at hl 1 rfl) ?_
    refine lv_iconst (v := (nI 4)) hx hb dX6_odds_5 (by decide) ?_
    refine lv_icmp_gt (tgt := 18) hx hb dX6_odds_6 (by decide) (fun c0 => ?_) (fun c0 => ?_)
    · replace hf := ite_t c0 hf
      refine lv_ldc2 (v := (-9223372036854775808 : Int64)) hx hb X.2.2.2.1 (X.2.2.2.2.1 _ q_26_9) dX6_odds_18 ?_
      exact r_lret X hH hf dX6_odds_21
    · replace hf := ite_f c0 hf
      refine lv_iload_n hx hb dX6_odds_9 rfl (lv_at hl 2 rfl) ?_
      refine lv_if_eq (tgt := 22) hx hb dX6_odds_10 (by decide) (fun c0 => ?_) (fun c0 => ?_)
      · replace hf := ite_t c0 hf
        exact w_X6_odds_22 X N S x1 x2 hf _ _ hH _ (lv_sub hl [0, 1, 2] rfl)
      · replace hf := ite_f c0 hf
        refine lv_iload_n hx hb dX6_odds_13 rfl (lv_at hl 2 rfl) ?_
        refine lv_iconst (v := (nI 1)) hx hb dX6_odds_14 (by decide) ?_
        refine lv_icmp_eq (tgt := 22) hx hb dX6_odds_15 (by decide) (fun c0 => ?_) (fun c0 => ?_)
        · replace hf := ite_t c0 hf
          exact w_X6_odds_22 X N S x1 x2 hf _ _ hH _ (lv_sub hl [0, 1, 2] rfl)
        · replace hf := ite_f c0 hf
          refine lv_ldc2 (v := (-9223372036854775808 : Int64)) hx hb X.2.2.2.1 (X.2.2.2.2.1 _ q_26_9) dX6_odds_18 ?_
          exact r_lret X hH hf dX6_odds_21
theorem c_X6_odds {l : Launch} {E : Ev} (N : Nat) (S : St) (x1 : Int32) (x2 : Int32) {r : Int64} {S1 : St} (hf : f_X6_odds N S x1 x2 = some (r, S1)) : Ct l yX6_odds (.code yX6_odds cX6_odds 5 (some .long)) 56 E [.ref (bb E 0), .int x1, .int x2] S (QL E r S1) := by
  refine Ct.of (by decide) (Nat.le_of_ble_eq_true rfl) (fun p e s m below meth c ls X hH hl => ?_)
  exact w_X6_odds_0 X N S x1 x2 hf _ _ hH _ hl
set_option maxRecDepth 100000 in
set_option maxHeartbeats 4000000 in
theorem w_X6_ofMacro_0 {p : Program} {l : Launch} {e : Env} {s : State} {m : MethodId} {args : Array Value} {below : List Frame} {meth : Method} {c : Code} {E : Ev} {r : Int32} {S1 : St} (X : GX p s m meth c args cX6_ofMacro 4 (some .int) RX6 E) (N : Nat) : ∀ (S : St) (x1 : Int32) (x2 : Int32), f_X6_ofMacro N S x1 x2 = some (r, S1) → ∀ (H : Heap) (locs : List Loc), HH E S s H locs → ∀ ls : Array Slot, lv_has ls 4 [(0, .ref (bb E 0)), (1, .int x1), (2, .int x2)] → W p l e (rmL 45) s m args below meth c H locs 0 0 (MQ below (QI E r S1 s.heap.size) args s 0 0 (AA E s.heap.size)) (F0 m 0 ls []) := by
  have hx := X.1
  have hb := X.2.1
  intro S x1 x2 hf H locs hH ls hl
  rw [f_X6_ofMacro] at hf
  refine lv_aload_n hx hb dX6_ofMacro_0 rfl (lv_at hl 0 rfl) ?_
  refine fg_X6_12 X hH dX6_ofMacro_1 ?_
  refine lv_iload_n hx hb dX6_ofMacro_4 rfl (lv_at hl 1 rfl) ?_
  obtain ⟨r3, S1, h2, hf⟩ := cal_g hf
  refine go_q hH (run_V X hH (rest := []) (c_X0_macroOf N S x1 h2) gm_X6_88 (by decide) (e_1 E _) rfl rfl hl.1 (rmL_ok (by decide) (by decide)) (Nat.le_of_ble_eq_true rfl) rfl dX6_ofMacro_5) (fun H locs hH => ?_)
  clear h2
  cases r3 with
  | none =>
    replace hf := opt_n hf
    refine lv_astore_nN (lv' := [(3, .null), (0, .ref (bb E 0)), (1, .int x1), (2, .int x2)]) hx hb dX6_ofMacro_8 rfl hl (by decide) rfl (fun ls hl => ?_)
    refine lv_aload_nN hx hb dX6_ofMacro_9 rfl (lv_at hl 0 rfl) ?_
    refine lv_ifnonnullN hx hb dX6_ofMacro_10 ?_
    refine lv_iconst (v := (-1 : Int32)) hx hb dX6_ofMacro_13 (by decide) ?_
    exact r_iret X hH hf dX6_ofMacro_14
  | some j4 =>
    replace hf := opt_s hf
    obtain ⟨hj4, hf⟩ := ite_g hf
    refine lv_astore_n (lv' := [(3, .ref (bb E (20 + j4))), (0, .ref (bb E 0)), (1, .int x1), (2, .int x2)]) hx hb dX6_ofMacro_8 rfl hl (by decide) rfl (fun ls hl => ?_)
    refine lv_aload_n hx hb dX6_ofMacro_9 rfl (lv_at hl 0 rfl) ?_
    refine lv_ifnonnull (tgt := 15) hx hb dX6_ofMacro_10 (by decide) ?_
    refine lv_iload_n hx hb dX6_ofMacro_15 rfl (lv_at hl 3 rfl) ?_
    refine lv_topi (fun y5 ex => ?_)
    replace hf := bnd_at ex hf
    clear ex
    by_cases c0 : y5 = (nI 0)
    · replace hf := ite_t c0 hf
      subst c0
      refine lv_tableIn (tgt := 52) hx hb dX6_ofMacro_16 (by decide) (by decide) rfl (by decide) ?_
      refine lv_aload_n hx hb dX6_ofMacro_52 rfl (lv_at hl 0 rfl) ?_
      refine fg_X6_92 X hH hj4 dX6_ofMacro_53 ?_
      exact r_iret X hH hf dX6_ofMacro_56
    · replace hf := ite_f c0 hf
      by_cases c1 : y5 = (nI 1)
      · replace hf := ite_t c1 hf
        subst c1
        refine lv_tableIn (tgt := 57) hx hb dX6_ofMacro_16 (by decide) (by decide) rfl (by decide) ?_
        refine lv_aload_n hx hb dX6_ofMacro_57 rfl (lv_at hl 0 rfl) ?_
        refine fg_X6_97 X hH hj4 dX6_ofMacro_58 ?_
        exact r_iret X hH hf dX6_ofMacro_61
      · replace hf := ite_f c1 hf
        by_cases c2 : y5 = (nI 2)
        · replace hf := ite_t c2 hf
          subst c2
          refine lv_tableIn (tgt := 62) hx hb dX6_ofMacro_16 (by decide) (by decide) rfl (by decide) ?_
          refine lv_aload_n hx hb dX6_ofMacro_62 rfl (lv_at hl 0 rfl) ?_
          obtain ⟨r8, S6, h7, hf⟩ := cal_g hf
          refine go_i hH (run_V X hH (rest := []) (c_X2_often N S1 j4 hj4 h7) gm_X6_100 (mk54 hj4) (e_mk E hj4 _) rfl rfl hl.1 (rmL_ok (by decide) (by decide)) (Nat.le_of_ble_eq_true rfl) rfl dX6_ofMacro_63) (fun H locs hH => ?_)
          clear h7
          exact r_iret X hH hf dX6_ofMacro_66
        · replace hf := ite_f c2 hf
          by_cases c3 : y5 = (nI 3)
          · replace hf := ite_t c3 hf
            subst c3
            refine lv_tableIn (tgt := 67) hx hb dX6_ofMacro_16 (by decide) (by decide) rfl (by decide) ?_
            refine lv_aload_n hx hb dX6_ofMacro_67 rfl (lv_at hl 0 rfl) ?_
            refine fg_X6_104 X hH hj4 dX6_ofMacro_68 ?_
            exact r_iret X hH hf dX6_ofMacro_71
          · replace hf := ite_f c3 hf
            by_cases c4 : y5 = (nI 4)
            · replace hf := ite_t c4 hf
              subst c4
              refine lv_tableIn (tgt := 72) hx hb dX6_ofMacro_16 (by decide) (by decide) rfl (by decide) ?_
              refine lv_aload_n hx hb dX6_ofMacro_72 rfl (lv_at hl 1 rfl) ?_
              refine fg_X6_12 X hH dX6_ofMacro_73 ?_
              refine lv_iload_n hx hb dX6_ofMacro_76 rfl (lv_at hl 2 rfl) ?_
              obtain ⟨r11, S9, h10, hf⟩ := cal_g hf
              refine go_i hH (run_N X hH (rest := []) (cg_X0_pressesOf 4 N S1 x1 h10) (GX_n1 X) gm_X6_107 (by decide) (e_1 E _) rfl rfl hl.1 (rmL_ok (by decide) (by decide)) (Nat.le_of_ble_eq_true rfl) rfl dX6_ofMacro_77) (fun H locs hH => ?_)
              clear h10
              exact r_iret X hH hf dX6_ofMacro_80
            · replace hf := ite_f c4 hf
              refine lv_tableOut (tgt := 81) hx hb dX6_ofMacro_16 (by have t0 : y5.toInt ≠ 0 := i32_ne c0; have t1 : y5.toInt ≠ 1 := i32_ne c1; have t2 : y5.toInt ≠ 2 := i32_ne c2; have t3 : y5.toInt ≠ 3 := i32_ne c3; have t4 : y5.toInt ≠ 4 := i32_ne c4; omega) (by decide) ?_
              refine lv_bipush (v := (-2 : Int32)) hx hb dX6_ofMacro_81 (by decide) ?_
              exact r_iret X hH hf dX6_ofMacro_83
theorem c_X6_ofMacro {l : Launch} {E : Ev} (N : Nat) (S : St) (x1 : Int32) (x2 : Int32) {r : Int32} {S1 : St} (hf : f_X6_ofMacro N S x1 x2 = some (r, S1)) : Ct l yX6_ofMacro (.code yX6_ofMacro cX6_ofMacro 4 (some .int)) 45 E [.ref (bb E 0), .int x1, .int x2] S (QI E r S1) := by
  refine Ct.of (by decide) (Nat.le_of_ble_eq_true rfl) (fun p e s m below meth c ls X hH hl => ?_)
  exact w_X6_ofMacro_0 X N S x1 x2 hf _ _ hH _ hl
set_option maxRecDepth 100000 in
set_option maxHeartbeats 4000000 in
theorem w_X6_ofRow_76 {p : Program} {l : Launch} {e : Env} {s : State} {m : MethodId} {args : Array Value} {below : List Frame} {meth : Method} {c : Code} {E : Ev} {r : Int32} {S1 : St} (X : GX p s m meth c args cX6_ofRow 12 (some .int) RX6 E) (N : Nat) (k16 : St → Nat → Int32 → Int32 → Int32 → Int32 → Int32 → Int32 → Int32 → Option (Int32 × St)) (hk16 : ∀ (S : St) (j1 : Nat) (x2 : Int32) (x3 : Int32) (x4 : Int32) (x5 : Int32) (x6 : Int32) (x7 : Int32) (x8 : Int32) (hj1 : j1 < 4), k16 S j1 x2 x3 x4 x5 x6 x7 x8 = some (r, S1) → ∀ (H : Heap) (locs : List Loc), HH E S s H locs → ∀ ls : Array Slot, lv_has ls 12 [(0, .ref (bb E 0)), (1, .ref (bb E (12 + j1))), (2, .int x2), (3, .int x3), (4, .int x4), (5, .int x5), (6, .int x6), (7, .int x7), (8, .int x8)] → W p l e (rmL 56) s m args below meth c H locs 0 0 (MQ below (QI E r S1 s.heap.size) args s 0 0 (AA E s.heap.size)) (F0 m 16 ls [])) : ∀ (S : St) (j1 : Nat) (x2 : Int32) (x3 : Int32) (x4 : Int32) (x6 : Int32) (x7 : Int32) (x8 : Int32) (x10 : Int32) (x11 : Int32) (hj1 : j1 < 4), f_X6_ofRow_76 N k16 S j1 x2 x3 x4 x6 x7 x8 x10 x11 = some (r, S1) → ∀ (H : Heap) (locs : List Loc), HH E S s H locs → ∀ ls : Array Slot, lv_has ls 12 [(0, .ref (bb E 0)), (1, .ref (bb E (12 + j1))), (2, .int x2), (3, .int x3), (4, .int x4), (6, .int x6), (7, .int x7), (8, .int x8), (10, .int x10), (11, .int x11)] → W p l e (rmL 56) s m args below meth c H locs 0 0 (MQ below (QI E r S1 s.heap.size) args s 0 0 (AA E s.heap.size)) (F0 m 76 ls []) := by
  have hx := X.1
  have hb := X.2.1
  intro S j1 x2 x3 x4 x6 x7 x8 x10 x11 hj1 hf H locs hH ls hl
  rw [f_X6_ofRow_76] at hf
  refine lv_iload hx hb dX6_ofRow_76 (lv_at hl 5 rfl) ?_
  refine lv_iload hx hb dX6_ofRow_78 (lv_at hl 9 rfl) ?_
  refine lv_iadd hx hb dX6_ofRow_80 ?_
  refine lv_topi (fun y1 ex => ?_)
  replace hf := bnd_at ex hf
  clear ex
  refine lv_istore (lv' := [(6, .int y1), (0, .ref (bb E 0)), (1, .ref (bb E (12 + j1))), (2, .int x2), (3, .int x3), (4, .int x4), (7, .int x7), (8, .int x8), (10, .int x10), (11, .int x11)]) hx hb dX6_ofRow_81 hl (by decide) rfl (fun ls hl => ?_)
  refine lv_iload hx hb dX6_ofRow_83 (lv_at hl 8 rfl) ?_
  obtain ⟨r4, S2, h3, hf⟩ := cal_g hf
  refine go_i hH (run_S X hH (rest := []) (c_X0_lineOf N S x10 h3) gm_X6_124 rfl hl.1 (rmL_ok (by decide) (by decide)) (Nat.le_of_ble_eq_true rfl) rfl dX6_ofRow_85) (fun H locs hH => ?_)
  clear h3
  refine lv_istore (lv' := [(5, .int r4), (6, .int y1), (0, .ref (bb E 0)), (1, .ref (bb E (12 + j1))), (2, .int x2), (3, .int x3), (4, .int x4), (7, .int x7), (8, .int x8), (10, .int x10), (11, .int x11)]) hx hb dX6_ofRow_88 hl (by decide) rfl (fun ls hl => ?_)
  obtain ⟨y5, ex, hf⟩ := bnd_go hf
  refine lv_iinc (v := y5) (lv' := [(8, .int y5), (5, .int r4), (6, .int y1), (0, .ref (bb E 0)), (1, .ref (bb E (12 + j1))), (2, .int x2), (3, .int x3), (4, .int x4), (7, .int x7), (10, .int x10), (11, .int x11)]) hx hb dX6_ofRow_90 hl (k := 8) rfl (by rw [ex]; rfl) (by decide) rfl (fun ls hl => ?_)
  clear ex
  refine lv_goto (tgt := 16) hx hb dX6_ofRow_93 (by decide) ?_
  exact hk16 S2 j1 x2 x3 x4 r4 y1 x7 y5 hj1 hf _ _ hH _ (lv_sub hl [3, 4, 5, 6, 7, 1, 2, 8, 0] rfl)
set_option maxRecDepth 100000 in
set_option maxHeartbeats 4000000 in
theorem w_X6_ofRow_16 {p : Program} {l : Launch} {e : Env} {s : State} {m : MethodId} {args : Array Value} {below : List Frame} {meth : Method} {c : Code} {E : Ev} {r : Int32} {S1 : St} (X : GX p s m meth c args cX6_ofRow 12 (some .int) RX6 E) (N : Nat) : ∀ (n : Nat) (S : St) (j1 : Nat) (x2 : Int32) (x3 : Int32) (x4 : Int32) (x5 : Int32) (x6 : Int32) (x7 : Int32) (x8 : Int32) (hj1 : j1 < 4), f_X6_ofRow_16 N n S j1 x2 x3 x4 x5 x6 x7 x8 = some (r, S1) → ∀ (H : Heap) (locs : List Loc), HH E S s H locs → ∀ ls : Array Slot, lv_has ls 12 [(0, .ref (bb E 0)), (1, .ref (bb E (12 + j1))), (2, .int x2), (3, .int x3), (4, .int x4), (5, .int x5), (6, .int x6), (7, .int x7), (8, .int x8)] → W p l e (rmL 56) s m args below meth c H locs 0 0 (MQ below (QI E r S1 s.heap.size) args s 0 0 (AA E s.heap.size)) (F0 m 16 ls []) := by
  have hx := X.1
  have hb := X.2.1
  intro n
  induction n with
  | zero =>
    intro S j1 x2 x3 x4 x5 x6 x7 x8 hj1 hf
    cases hf
  | succ n ih =>
    intro S j1 x2 x3 x4 x5 x6 x7 x8 hj1 hf H locs hH ls hl
    rw [f_X6_ofRow_16] at hf
    refine lv_iload hx hb dX6_ofRow_16 (lv_at hl 8 rfl) ?_
    refine lv_iload_n hx hb dX6_ofRow_18 rfl (lv_at hl 3 rfl) ?_
    refine lv_icmp_ge (tgt := 96) hx hb dX6_ofRow_19 (by decide) (fun c0 => ?_) (fun c0 => ?_)
    · replace hf := ite_t c0 hf
      refine lv_iload hx hb dX6_ofRow_96 (lv_at hl 4 rfl) ?_
      refine lv_topi (fun y1 ex => ?_)
      replace hf := bnd_at ex hf
      clear ex
      by_cases c0 : y1 = (nI 0)
      · replace hf := ite_t c0 hf
        subst c0
        refine lv_tableIn (tgt := 132) hx hb dX6_ofRow_98 (by decide) (by decide) rfl (by decide) ?_
        refine lv_iload hx hb dX6_ofRow_132 (lv_at hl 5 rfl) ?_
        obtain ⟨r4, S2, h3, hf⟩ := cal_g hf
        refine go_i hH (run_S X hH (rest := []) (c_X1_countOf N S x5 h3) gm_X6_130 rfl hl.1 (rmL_ok (by decide) (by decide)) (Nat.le_of_ble_eq_true rfl) rfl dX6_ofRow_134) (fun H locs hH => ?_)
        clear h3
        exact r_iret X hH hf dX6_ofRow_137
      · replace hf := ite_f c0 hf
        by_cases c1 : y1 = (nI 1)
        · replace hf := ite_t c1 hf
          subst c1
          refine lv_tableIn (tgt := 138) hx hb dX6_ofRow_98 (by decide) (by decide) rfl (by decide) ?_
          refine lv_iload hx hb dX6_ofRow_138 (lv_at hl 5 rfl) ?_
          obtain ⟨r7, S5, h6, hf⟩ := cal_g hf
          refine go_i hH (run_S X hH (rest := []) (c_X1_cursorOf N S x5 h6) gm_X6_153 rfl hl.1 (rmL_ok (by decide) (by decide)) (Nat.le_of_ble_eq_true rfl) rfl dX6_ofRow_140) (fun H locs hH => ?_)
          clear h6
          exact r_iret X hH hf dX6_ofRow_143
        · replace hf := ite_f c1 hf
          by_cases c2 : y1 = (nI 2)
          · replace hf := ite_t c2 hf
            subst c2
            refine lv_tableIn (tgt := 144) hx hb dX6_ofRow_98 (by decide) (by decide) rfl (by decide) ?_
            refine lv_iload hx hb dX6_ofRow_144 (lv_at hl 7 rfl) ?_
            exact r_iret X hH hf dX6_ofRow_146
          · replace hf := ite_f c2 hf
            by_cases c3 : y1 = (nI 3)
            · replace hf := ite_t c3 hf
              subst c3
              refine lv_tableIn (tgt := 147) hx hb dX6_ofRow_98 (by decide) (by decide) rfl (by decide) ?_
              refine lv_iload hx hb dX6_ofRow_147 (lv_at hl 6 rfl) ?_
              exact r_iret X hH hf dX6_ofRow_149
            · replace hf := ite_f c3 hf
              by_cases c4 : y1 = (nI 4)
              · replace hf := ite_t c4 hf
                subst c4
                refine lv_tableIn (tgt := 150) hx hb dX6_ofRow_98 (by decide) (by decide) rfl (by decide) ?_
                refine lv_iload hx hb dX6_ofRow_150 (lv_at hl 5 rfl) ?_
                obtain ⟨r10, S8, h9, hf⟩ := cal_g hf
                refine go_i hH (run_S X hH (rest := []) (c_X1_digitsOf N S x5 h9) gm_X6_156 rfl hl.1 (rmL_ok (by decide) (by decide)) (Nat.le_of_ble_eq_true rfl) rfl dX6_ofRow_152) (fun H locs hH => ?_)
                clear h9
                exact r_iret X hH hf dX6_ofRow_155
              · replace hf := ite_f c4 hf
                refine lv_tableOut (tgt := 156) hx hb dX6_ofRow_98 (by have t0 : y1.toInt ≠ 0 := i32_ne c0; have t1 : y1.toInt ≠ 1 := i32_ne c1; have t2 : y1.toInt ≠ 2 := i32_ne c2; have t3 : y1.toInt ≠ 3 := i32_ne c3; have t4 : y1.toInt ≠ 4 := i32_ne c4; omega) (by decide) ?_
                refine lv_iload hx hb dX6_ofRow_156 (lv_at hl 4 rfl) ?_
                refine lv_bipush (v := (nI 10)) hx hb dX6_ofRow_158 (by decide) ?_
                refine lv_isub hx hb dX6_ofRow_160 ?_
                refine lv_iload hx hb dX6_ofRow_161 (lv_at hl 5 rfl) ?_
                obtain ⟨r13, S11, h12, hf⟩ := cal_g hf
                refine go_i hH (run_S X hH (rest := [.int (x4 - (nI 10))]) (c_X1_countOf N S x5 h12) gm_X6_130 rfl hl.1 (rmL_ok (by decide) (by decide)) (Nat.le_of_ble_eq_true rfl) rfl dX6_ofRow_163) (fun H locs hH => ?_)
                clear h12
                refine lv_icmp_ge (tgt := 182) hx hb dX6_ofRow_166 (by decide) (fun c0 => ?_) (fun c0 => ?_)
                · replace hf := ite_t c0 hf
                  refine lv_bipush (v := (-9 : Int32)) hx hb dX6_ofRow_182 (by decide) ?_
                  exact r_iret X hH hf dX6_ofRow_184
                · replace hf := ite_f c0 hf
                  refine lv_iload hx hb dX6_ofRow_169 (lv_at hl 5 rfl) ?_
                  refine lv_iload hx hb dX6_ofRow_171 (lv_at hl 4 rfl) ?_
                  refine lv_bipush (v := (nI 10)) hx hb dX6_ofRow_173 (by decide) ?_
                  refine lv_isub hx hb dX6_ofRow_175 ?_
                  obtain ⟨r16, S14, h15, hf⟩ := cal_g hf
                  refine go_i hH (run_S X hH (rest := []) (c_X1_letterAt N S11 x5 (x4 - (nI 10)) h15) gm_X6_133 rfl hl.1 (rmL_ok (by decide) (by decide)) (Nat.le_of_ble_eq_true rfl) rfl dX6_ofRow_176) (fun H locs hH => ?_)
                  clear h15
                  refine lv_goto (tgt := 184) hx hb dX6_ofRow_179 (by decide) ?_
                  exact r_iret X hH hf dX6_ofRow_184
    · replace hf := ite_f c0 hf
      refine lv_aload_n hx hb dX6_ofRow_22 rfl (lv_at hl 1 rfl) ?_
      refine fg_X6_150 X hH hj1 dX6_ofRow_23 ?_
      refine lv_iload_n hx hb dX6_ofRow_26 rfl (lv_at hl 2 rfl) ?_
      refine lv_iload hx hb dX6_ofRow_27 (lv_at hl 8 rfl) ?_
      refine lv_iadd hx hb dX6_ofRow_29 ?_
      obtain ⟨g, hf⟩ := ite_g hf
      refine r_iald X hH (a_sh E hj1) g dX6_ofRow_30 ?_
      refine lv_topi (fun y17 ex => ?_)
      replace hf := bnd_at ex hf
      clear ex
      refine lv_istore (lv' := [(9, .int y17), (0, .ref (bb E 0)), (1, .ref (bb E (12 + j1))), (2, .int x2), (3, .int x3), (4, .int x4), (5, .int x5), (6, .int x6), (7, .int x7), (8, .int x8)]) hx hb dX6_ofRow_31 hl (by decide) rfl (fun ls hl => ?_)
      refine lv_aload_n hx hb dX6_ofRow_33 rfl (lv_at hl 1 rfl) ?_
      refine fg_X6_12 X hH dX6_ofRow_34 ?_
      refine lv_iload hx hb dX6_ofRow_37 (lv_at hl 6 rfl) ?_
      refine lv_iload hx hb dX6_ofRow_39 (lv_at hl 0 rfl) ?_
      obtain ⟨r20, S18, h19, hf⟩ := cal_g hf
      refine go_i hH (run_N X hH (rest := []) (cg_X0_effectOf 5 N S x5 y17 h19) (GX_n2 X) gm_X6_121 (by decide) (e_1 E _) rfl rfl hl.1 (rmL_ok (by decide) (by decide)) (Nat.le_of_ble_eq_true rfl) rfl dX6_ofRow_41) (fun H locs hH => ?_)
      clear h19
      refine lv_istore (lv' := [(10, .int r20), (9, .int y17), (0, .ref (bb E 0)), (1, .ref (bb E (12 + j1))), (2, .int x2), (3, .int x3), (4, .int x4), (5, .int x5), (6, .int x6), (7, .int x7), (8, .int x8)]) hx hb dX6_ofRow_44 hl (by decide) rfl (fun ls hl => ?_)
      refine lv_iload hx hb dX6_ofRow_46 (lv_at hl 0 rfl) ?_
      obtain ⟨r23, S21, h22, hf⟩ := cal_g hf
      refine go_i hH (run_S X hH (rest := []) (c_X0_bumpsOf N S18 r20 h22) gm_X6_127 rfl hl.1 (rmL_ok (by decide) (by decide)) (Nat.le_of_ble_eq_true rfl) rfl dX6_ofRow_48) (fun H locs hH => ?_)
      clear h22
      refine lv_istore (lv' := [(11, .int r23), (10, .int r20), (9, .int y17), (0, .ref (bb E 0)), (1, .ref (bb E (12 + j1))), (2, .int x2), (3, .int x3), (4, .int x4), (5, .int x5), (6, .int x6), (7, .int x7), (8, .int x8)]) hx hb dX6_ofRow_51 hl (by decide) rfl (fun ls hl => ?_)
      refine lv_iload hx hb dX6_ofRow_53 (lv_at hl 10 rfl) ?_
      refine lv_bipush (v := (-9 : Int32)) hx hb dX6_ofRow_55 (by decide) ?_
      refine lv_icmp_ne (tgt := 76) hx hb dX6_ofRow_57 (by decide) (fun c0 => ?_) (fun c0 => ?_)
      · replace hf := ite_f c0 hf
        exact w_X6_ofRow_76 X N (f_X6_ofRow_16 N n) ih S21 j1 x2 x3 x4 x6 x7 x8 r20 r23 hj1 hf _ _ hH _ (lv_sub hl [3, 4, 5, 6, 7, 9, 10, 11, 1, 0] rfl)
      · replace hf := ite_t c0 hf
        refine lv_iload hx hb dX6_ofRow_60 (lv_at hl 2 rfl) ?_
        refine lv_bipush (v := (nI 8)) hx hb dX6_ofRow_62 (by decide) ?_
        refine lv_icmp_ge (tgt := 76) hx hb dX6_ofRow_64 (by decide) (fun c0 => ?_) (fun c0 => ?_)
        · replace hf := ite_t c0 hf
          exact w_X6_ofRow_76 X N (f_X6_ofRow_16 N n) ih S21 j1 x2 x3 x4 x6 x7 x8 r20 r23 hj1 hf _ _ hH _ (lv_sub hl [3, 4, 5, 6, 7, 9, 10, 11, 1, 0] rfl)
        · replace hf := ite_f c0 hf
          refine lv_iload hx hb dX6_ofRow_67 (lv_at hl 0 rfl) ?_
          refine lv_if_le (tgt := 76) hx hb dX6_ofRow_69 (by decide) (fun c0 => ?_) (fun c0 => ?_)
          · replace hf := ite_t c0 hf
            exact w_X6_ofRow_76 X N (f_X6_ofRow_16 N n) ih S21 j1 x2 x3 x4 x6 x7 x8 r20 r23 hj1 hf _ _ hH _ (lv_sub hl [3, 4, 5, 6, 7, 9, 10, 11, 1, 0] rfl)
          · replace hf := ite_f c0 hf
            refine lv_iload hx hb dX6_ofRow_72 (lv_at hl 11 rfl) ?_
            refine lv_istore (lv' := [(7, .int x8), (11, .int r23), (10, .int r20), (9, .int y17), (0, .ref (bb E 0)), (1, .ref (bb E (12 + j1))), (2, .int x2), (3, .int x3), (4, .int x4), (5, .int x5), (6, .int x6), (8, .int x8)]) hx hb dX6_ofRow_74 hl (by decide) rfl (fun ls hl => ?_)
            exact w_X6_ofRow_76 X N (f_X6_ofRow_16 N n) ih S21 j1 x2 x3 x4 x6 x8 x8 r20 r23 hj1 hf _ _ hH _ (lv_sub hl [4, 5, 6, 7, 8, 10, 0, 11, 2, 1] rfl)
set_option maxRecDepth 100000 in
set_option maxHeartbeats 4000000 in
theorem w_X6_ofRow_0 {p : Program} {l : Launch} {e : Env} {s : State} {m : MethodId} {args : Array Value} {below : List Frame} {meth : Method} {c : Code} {E : Ev} {r : Int32} {S1 : St} (X : GX p s m meth c args cX6_ofRow 12 (some .int) RX6 E) (N : Nat) : ∀ (S : St) (j1 : Nat) (x2 : Int32) (x3 : Int32) (x4 : Int32) (hj1 : j1 < 4), f_X6_ofRow N S j1 x2 x3 x4 = some (r, S1) → ∀ (H : Heap) (locs : List Loc), HH E S s H locs → ∀ ls : Array Slot, lv_has ls 12 [(0, .ref (bb E 0)), (1, .ref (bb E (12 + j1))), (2, .int x2), (3, .int x3), (4, .int x4)] → W p l e (rmL 56) s m args below meth c H locs 0 0 (MQ below (QI E r S1 s.heap.size) args s 0 0 (AA E s.heap.size)) (F0 m 0 ls []) := by
  have hx := X.1
  have hb := X.2.1
  intro S j1 x2 x3 x4 hj1 hf H locs hH ls hl
  rw [f_X6_ofRow] at hf
  refine lv_aload_n hx hb dX6_ofRow_0 rfl (lv_at hl 0 rfl) ?_
  refine fg_X6_48 X hH dX6_ofRow_1 ?_
  refine lv_topi (fun y1 ex => ?_)
  replace hf := bnd_at ex hf
  clear ex
  refine lv_istore (lv' := [(5, .int y1), (0, .ref (bb E 0)), (1, .ref (bb E (12 + j1))), (2, .int x2), (3, .int x3), (4, .int x4)]) hx hb dX6_ofRow_4 hl (by decide) rfl (fun ls hl => ?_)
  refine lv_iconst (v := (nI 0)) hx hb dX6_ofRow_6 (by decide) ?_
  refine lv_topi (fun y2 ex => ?_)
  replace hf := bnd_at ex hf
  clear ex
  refine lv_istore (lv' := [(6, .int y2), (5, .int y1), (0, .ref (bb E 0)), (1, .ref (bb E (12 + j1))), (2, .int x2), (3, .int x3), (4, .int x4)]) hx hb dX6_ofRow_7 hl (by decide) rfl (fun ls hl => ?_)
  refine lv_bipush (v := (-9 : Int32)) hx hb dX6_ofRow_9 (by decide) ?_
  refine lv_topi (fun y3 ex => ?_)
  replace hf := bnd_at ex hf
  clear ex
  refine lv_istore (lv' := [(7, .int y3), (6, .int y2), (5, .int y1), (0, .ref (bb E 0)), (1, .ref (bb E (12 + j1))), (2, .int x2), (3, .int x3), (4, .int x4)]) hx hb dX6_ofRow_11 hl (by decide) rfl (fun ls hl => ?_)
  refine lv_iconst (v := (nI 0)) hx hb dX6_ofRow_13 (by decide) ?_
  refine lv_topi (fun y4 ex => ?_)
  replace hf := bnd_at ex hf
  clear ex
  refine lv_istore (lv' := [(8, .int y4), (7, .int y3), (6, .int y2), (5, .int y1), (0, .ref (bb E 0)), (1, .ref (bb E (12 + j1))), (2, .int x2), (3, .int x3), (4, .int x4)]) hx hb dX6_ofRow_14 hl (by decide) rfl (fun ls hl => ?_)
  exact w_X6_ofRow_16 X N N S j1 x2 x3 x4 y1 y2 y3 y4 hj1 hf _ _ hH _ (lv_sub hl [4, 5, 6, 7, 8, 3, 2, 1, 0] rfl)
theorem c_X6_ofRow {l : Launch} {E : Ev} (N : Nat) (S : St) (j1 : Nat) (x2 : Int32) (x3 : Int32) (x4 : Int32) (hj1 : j1 < 4) {r : Int32} {S1 : St} (hf : f_X6_ofRow N S j1 x2 x3 x4 = some (r, S1)) : Ct l yX6_ofRow (.code yX6_ofRow cX6_ofRow 12 (some .int)) 56 E [.ref (bb E 0), .ref (bb E (12 + j1)), .int x2, .int x3, .int x4] S (QI E r S1) := by
  refine Ct.of (by decide) (Nat.le_of_ble_eq_true rfl) (fun p e s m below meth c ls X hH hl => ?_)
  exact w_X6_ofRow_0 X N S j1 x2 x3 x4 hj1 hf _ _ hH _ hl
set_option maxRecDepth 100000 in
set_option maxHeartbeats 4000000 in
theorem w_X6_play_0 {p : Program} {l : Launch} {e : Env} {s : State} {m : MethodId} {args : Array Value} {below : List Frame} {meth : Method} {c : Code} {E : Ev} {r : Int32} {S1 : St} (X : GX p s m meth c args cX6_play 3 (some .int) RX6 E) (N : Nat) : ∀ (S : St) (x1 : Int32), f_X6_play N S x1 = some (r, S1) → ∀ (H : Heap) (locs : List Loc), HH E S s H locs → ∀ ls : Array Slot, lv_has ls 3 [(0, .ref (bb E 0)), (1, .int x1)] → W p l e (rmL 56) s m args below meth c H locs 0 0 (MQ below (QI E r S1 s.heap.size) args s 0 0 (AA E s.heap.size)) (F0 m 0 ls []) := by
  have hx := X.1
  have hb := X.2.1
  intro S x1 hf H locs hH ls hl
  rw [f_X6_play] at hf
  refine lv_aload_n hx hb dX6_play_0 rfl (lv_at hl 0 rfl) ?_
  refine fg_X6_12 X hH dX6_play_1 ?_
  refine lv_iload_n hx hb dX6_play_4 rfl (lv_at hl 1 rfl) ?_
  obtain ⟨r3, S1, h2, hf⟩ := cal_g hf
  refine go_q hH (run_V X hH (rest := []) (c_X0_macroOf N S x1 h2) gm_X6_88 (by decide) (e_1 E _) rfl rfl hl.1 (rmL_ok (by decide) (by decide)) (Nat.le_of_ble_eq_true rfl) rfl dX6_play_5) (fun H locs hH => ?_)
  clear h2
  cases r3 with
  | none =>
    replace hf := opt_n hf
    refine lv_ifnonnullN hx hb dX6_play_8 ?_
    refine lv_iconst (v := (-1 : Int32)) hx hb dX6_play_11 (by decide) ?_
    exact r_iret X hH hf dX6_play_12
  | some j4 =>
    replace hf := opt_s hf
    obtain ⟨hj4, hf⟩ := ite_g hf
    refine lv_ifnonnull (tgt := 13) hx hb dX6_play_8 (by decide) ?_
    refine lv_aload_n hx hb dX6_play_13 rfl (lv_at hl 0 rfl) ?_
    refine fg_X6_12 X hH dX6_play_14 ?_
    refine lv_aload_n hx hb dX6_play_17 rfl (lv_at hl 0 rfl) ?_
    refine fg_X6_48 X hH dX6_play_18 ?_
    refine lv_bipush (v := (nI 8)) hx hb dX6_play_21 (by decide) ?_
    refine lv_iload_n hx hb dX6_play_23 rfl (lv_at hl 1 rfl) ?_
    refine lv_iadd hx hb dX6_play_24 ?_
    obtain ⟨r7, S5, h6, hf⟩ := cal_g hf
    refine go_i hH (run_N X hH (rest := []) (cg_X0_effectOf 5 N S1 (S1 0 7) ((nI 8) + x1) h6) (GX_n2 X) gm_X6_121 (by decide) (e_1 E _) rfl rfl hl.1 (rmL_ok (by decide) (by decide)) (Nat.le_of_ble_eq_true rfl) rfl dX6_play_25) (fun H locs hH => ?_)
    clear h6
    refine lv_istore_n (lv' := [(2, .int r7), (0, .ref (bb E 0)), (1, .int x1)]) hx hb dX6_play_28 rfl hl (by decide) rfl (fun ls hl => ?_)
    refine lv_aload_n hx hb dX6_play_29 rfl (lv_at hl 1 rfl) ?_
    refine lv_iload_n hx hb dX6_play_30 rfl (lv_at hl 0 rfl) ?_
    obtain ⟨r10, S8, h9, hf⟩ := cal_g hf
    refine go_i hH (run_S X hH (rest := [.ref (bb E 0)]) (c_X0_lineOf N S5 r7 h9) gm_X6_124 rfl hl.1 (rmL_ok (by decide) (by decide)) (Nat.le_of_ble_eq_true rfl) rfl dX6_play_31) (fun H locs hH => ?_)
    clear h9
    refine fp_X6_48 X hH dX6_play_34 (fun H locs hH => ?_)
    obtain ⟨S11, ex, hf⟩ := bnd_go hf
    replace hH := HH_eq ex hH
    clear ex
    refine lv_aload_n hx hb dX6_play_37 rfl (lv_at hl 1 rfl) ?_
    refine lv_dup hx hb dX6_play_38 rfl ?_
    refine fg_X6_79 X hH dX6_play_39 ?_
    refine lv_iconst (v := (nI 1)) hx hb dX6_play_42 (by decide) ?_
    refine lv_iadd hx hb dX6_play_43 ?_
    refine fp_X6_79 X hH dX6_play_44 (fun H locs hH => ?_)
    obtain ⟨S12, ex, hf⟩ := bnd_go hf
    replace hH := HH_eq ex hH
    clear ex
    refine lv_iload_n hx hb dX6_play_47 rfl (lv_at hl 0 rfl) ?_
    obtain ⟨r15, S13, h14, hf⟩ := cal_g hf
    refine go_i hH (run_S X hH (rest := []) (c_X0_bumpsOf N S12 r7 h14) gm_X6_127 rfl hl.1 (rmL_ok (by decide) (by decide)) (Nat.le_of_ble_eq_true rfl) rfl dX6_play_48) (fun H locs hH => ?_)
    clear h14
    exact r_iret X hH hf dX6_play_51
theorem c_X6_play {l : Launch} {E : Ev} (N : Nat) (S : St) (x1 : Int32) {r : Int32} {S1 : St} (hf : f_X6_play N S x1 = some (r, S1)) : Ct l yX6_play (.code yX6_play cX6_play 3 (some .int)) 56 E [.ref (bb E 0), .int x1] S (QI E r S1) := by
  refine Ct.of (by decide) (Nat.le_of_ble_eq_true rfl) (fun p e s m below meth c ls X hH hl => ?_)
  exact w_X6_play_0 X N S x1 hf _ _ hH _ hl
set_option maxRecDepth 100000 in
set_option maxHeartbeats 4000000 in
theorem w_X6_press_0 {p : Program} {l : Launch} {e : Env} {s : State} {m : MethodId} {args : Array Value} {below : List Frame} {meth : Method} {c : Code} {E : Ev} {r : Int32} {S1 : St} (X : GX p s m meth c args cX6_press 3 (some .int) RX6 E) (N : Nat) : ∀ (S : St) (x1 : Int32), f_X6_press N S x1 = some (r, S1) → ∀ (H : Heap) (locs : List Loc), HH E S s H locs → ∀ ls : Array Slot, lv_has ls 3 [(0, .ref (bb E 0)), (1, .int x1)] → W p l e (rmL 3) s m args below meth c H locs 0 0 (MQ below (QI E r S1 s.heap.size) args s 0 0 (AA E s.heap.size)) (F0 m 0 ls []) := by
  have hx := X.1
  have hb := X.2.1
  intro S x1 hf H locs hH ls hl
  rw [f_X6_press] at hf
  refine lv_iload_n hx hb dX6_press_0 rfl (lv_at hl 1 rfl) ?_
  refine lv_if_lt (tgt := 10) hx hb dX6_press_1 (by decide) (fun c0 => ?_) (fun c0 => ?_)
  · replace hf := ite_t c0 hf
    refine lv_bipush (v := (-2 : Int32)) hx hb dX6_press_10 (by decide) ?_
    exact r_iret X hH hf dX6_press_12
  · replace hf := ite_f c0 hf
    refine lv_iload_n hx hb dX6_press_4 rfl (lv_at hl 1 rfl) ?_
    refine lv_bipush (v := (nI 8)) hx hb dX6_press_5 (by decide) ?_
    refine lv_icmp_lt (tgt := 13) hx hb dX6_press_7 (by decide) (fun c0 => ?_) (fun c0 => ?_)
    · replace hf := ite_t c0 hf
      refine lv_aload_n hx hb dX6_press_13 rfl (lv_at hl 0 rfl) ?_
      refine fg_X6_48 X hH dX6_press_14 ?_
      refine lv_topi (fun y1 ex => ?_)
      replace hf := bnd_at ex hf
      clear ex
      refine lv_istore_n (lv' := [(2, .int y1), (0, .ref (bb E 0)), (1, .int x1)]) hx hb dX6_press_17 rfl hl (by decide) rfl (fun ls hl => ?_)
      refine lv_aload_n hx hb dX6_press_18 rfl (lv_at hl 1 rfl) ?_
      refine lv_iload_n hx hb dX6_press_19 rfl (lv_at hl 0 rfl) ?_
      refine lv_iload_n hx hb dX6_press_20 rfl (lv_at hl 2 rfl) ?_
      obtain ⟨r4, S2, h3, hf⟩ := cal_g hf
      refine go_i hH (run_S X hH (rest := [.ref (bb E 0)]) (c_X1_after N S y1 x1 h3) gm_X6_117 rfl hl.1 (rmL_ok (by decide) (by decide)) (Nat.le_of_ble_eq_true rfl) rfl dX6_press_21) (fun H locs hH => ?_)
      clear h3
      refine fp_X6_48 X hH dX6_press_24 (fun H locs hH => ?_)
      obtain ⟨S5, ex, hf⟩ := bnd_go hf
      replace hH := HH_eq ex hH
      clear ex
      refine lv_aload_n hx hb dX6_press_27 rfl (lv_at hl 1 rfl) ?_
      refine lv_dup hx hb dX6_press_28 rfl ?_
      refine fg_X6_79 X hH dX6_press_29 ?_
      refine lv_iconst (v := (nI 1)) hx hb dX6_press_32 (by decide) ?_
      refine lv_iadd hx hb dX6_press_33 ?_
      refine fp_X6_79 X hH dX6_press_34 (fun H locs hH => ?_)
      obtain ⟨S6, ex, hf⟩ := bnd_go hf
      replace hH := HH_eq ex hH
      clear ex
      refine lv_aload_n hx hb dX6_press_37 rfl (lv_at hl 1 rfl) ?_
      refine fg_X6_48 X hH dX6_press_38 ?_
      refine lv_iload_n hx hb dX6_press_41 rfl (lv_at hl 0 rfl) ?_
      refine lv_icmp_ne (tgt := 49) hx hb dX6_press_42 (by decide) (fun c0 => ?_) (fun c0 => ?_)
      · replace hf := ite_f c0 hf
        refine lv_iconst (v := (nI 1)) hx hb dX6_press_49 (by decide) ?_
        exact r_iret X hH hf dX6_press_50
      · replace hf := ite_t c0 hf
        refine lv_iconst (v := (nI 0)) hx hb dX6_press_45 (by decide) ?_
        refine lv_goto (tgt := 50) hx hb dX6_press_46 (by decide) ?_
        exact r_iret X hH hf dX6_press_50
    · replace hf := ite_f c0 hf
      refine lv_bipush (v := (-2 : Int32)) hx hb dX6_press_10 (by decide) ?_
      exact r_iret X hH hf dX6_press_12
theorem c_X6_press {l : Launch} {E : Ev} (N : Nat) (S : St) (x1 : Int32) {r : Int32} {S1 : St} (hf : f_X6_press N S x1 = some (r, S1)) : Ct l yX6_press (.code yX6_press cX6_press 3 (some .int)) 3 E [.ref (bb E 0), .int x1] S (QI E r S1) := by
  refine Ct.of (by decide) (Nat.le_of_ble_eq_true rfl) (fun p e s m below meth c ls X hH hl => ?_)
  exact w_X6_press_0 X N S x1 hf _ _ hH _ hl
set_option maxRecDepth 100000 in
set_option maxHeartbeats 4000000 in
theorem w_X6_put_0 {p : Program} {l : Launch} {e : Env} {s : State} {m : MethodId} {args : Array Value} {below : List Frame} {meth : Method} {c : Code} {E : Ev} {r : Int32} {S1 : St} (X : GX p s m meth c args cX6_put 6 (some .int) RX6 E) (N : Nat) : ∀ (S : St) (x1 : Int32) (x2 : Int32) (x3 : Int32), f_X6_put N S x1 x2 x3 = some (r, S1) → ∀ (H : Heap) (locs : List Loc), HH E S s H locs → ∀ ls : Array Slot, lv_has ls 6 [(0, .ref (bb E 0)), (1, .int x1), (2, .int x2), (3, .int x3)] → W p l e (rmL 3) s m args below meth c H locs 0 0 (MQ below (QI E r S1 s.heap.size) args s 0 0 (AA E s.heap.size)) (F0 m 0 ls []) := by
  have hx := X.1
  have hb := X.2.1
  intro S x1 x2 x3 hf H locs hH ls hl
  rw [f_X6_put] at hf
  refine lv_aload_n hx hb dX6_put_0 rfl (lv_at hl 0 rfl) ?_
  refine lv_iconst (v := (nI 0)) hx hb dX6_put_1 (by decide) ?_
  refine fp_X6_52 X hH dX6_put_2 (fun H locs hH => ?_)
  obtain ⟨S1, ex, hf⟩ := bnd_go hf
  replace hH := HH_eq ex hH
  clear ex
  refine lv_aload_n hx hb dX6_put_5 rfl (lv_at hl 0 rfl) ?_
  refine lv_iload_n hx hb dX6_put_6 rfl (lv_at hl 1 rfl) ?_
  obtain ⟨r4, S2, h3, hf⟩ := cal_g hf
  refine go_q hH (run_V X hH (rest := []) (c_X6_sheetOf N S1 x1 h3) gm_X6_55 (by decide) (e_0 E _) rfl rfl hl.1 (rmL_ok (by decide) (by decide)) (Nat.le_of_ble_eq_true rfl) rfl dX6_put_7) (fun H locs hH => ?_)
  clear h3
  cases r4 with
  | none =>
    replace hf := opt_n hf
    refine lv_astoreN (lv' := [(4, .null), (0, .ref (bb E 0)), (1, .int x1), (2, .int x2), (3, .int x3)]) hx hb dX6_put_10 hl (by decide) rfl (fun ls hl => ?_)
    refine lv_aloadN hx hb dX6_put_12 (lv_at hl 0 rfl) ?_
    refine lv_ifnonnullN hx hb dX6_put_14 ?_
    refine lv_iconst (v := (-1 : Int32)) hx hb dX6_put_17 (by decide) ?_
    exact r_iret X hH hf dX6_put_18
  | some j5 =>
    replace hf := opt_s hf
    obtain ⟨hj5, hf⟩ := ite_g hf
    refine lv_astore (lv' := [(4, .ref (bb E (12 + j5))), (0, .ref (bb E 0)), (1, .int x1), (2, .int x2), (3, .int x3)]) hx hb dX6_put_10 hl (by decide) rfl (fun ls hl => ?_)
    refine lv_aload hx hb dX6_put_12 (lv_at hl 0 rfl) ?_
    refine lv_ifnonnull (tgt := 19) hx hb dX6_put_14 (by decide) ?_
    refine lv_aload hx hb dX6_put_19 (lv_at hl 0 rfl) ?_
    refine lv_aload hx hb dX6_put_21 (lv_at hl 0 rfl) ?_
    refine fg_X6_204 X hH hj5 dX6_put_23 ?_
    refine lv_iload_n hx hb dX6_put_26 rfl (lv_at hl 3 rfl) ?_
    refine lv_iconst (v := (nI 1)) hx hb dX6_put_27 (by decide) ?_
    obtain ⟨r8, S6, h7, hf⟩ := cal_g hf
    refine go_i hH (run_V X hH (rest := []) (c_X5_faultOf N S2 j5 (S2 (12 + j5) 0) x2 (nI 1) hj5 h7) gm_X6_63 (sh54 hj5) (e_sh E hj5 _) rfl rfl hl.1 (rmL_ok (by decide) (by decide)) (Nat.le_of_ble_eq_true rfl) rfl dX6_put_28) (fun H locs hH => ?_)
    clear h7
    refine lv_istore (lv' := [(5, .int r8), (4, .ref (bb E (12 + j5))), (0, .ref (bb E 0)), (1, .int x1), (2, .int x2), (3, .int x3)]) hx hb dX6_put_31 hl (by decide) rfl (fun ls hl => ?_)
    refine lv_iload hx hb dX6_put_33 (lv_at hl 0 rfl) ?_
    refine lv_if_eq (tgt := 45) hx hb dX6_put_35 (by decide) (fun c0 => ?_) (fun c0 => ?_)
    · replace hf := ite_t c0 hf
      refine lv_aload hx hb dX6_put_45 (lv_at hl 1 rfl) ?_
      refine fg_X6_150 X hH hj5 dX6_put_47 ?_
      refine lv_iload_n hx hb dX6_put_50 rfl (lv_at hl 4 rfl) ?_
      refine lv_aload hx hb dX6_put_51 (lv_at hl 1 rfl) ?_
      refine lv_iload_n hx hb dX6_put_53 rfl (lv_at hl 5 rfl) ?_
      obtain ⟨r11, S9, h10, hf⟩ := cal_g hf
      refine go_i hH (run_V X hH (rest := [.int x2, .ref (bb E (16 + j5))]) (c_X5_cut N S6 j5 x3 hj5 h10) gm_X6_207 (sh54 hj5) (e_sh E hj5 _) rfl rfl hl.1 (rmL_ok (by decide) (by decide)) (Nat.le_of_ble_eq_true rfl) rfl dX6_put_54) (fun H locs hH => ?_)
      clear h10
      obtain ⟨g, hf⟩ := ite_g hf
      refine r_iast X hH (a_sh E hj5) g dX6_put_57 (fun H locs hH => ?_)
      obtain ⟨S12, ex, hf⟩ := bnd_go hf
      replace hH := HH_eq ex hH
      clear ex
      refine lv_iconst (v := (nI 1)) hx hb dX6_put_58 (by decide) ?_
      exact r_iret X hH hf dX6_put_59
    · replace hf := ite_f c0 hf
      refine lv_aload_n hx hb dX6_put_38 rfl (lv_at hl 2 rfl) ?_
      refine lv_iload hx hb dX6_put_39 (lv_at hl 0 rfl) ?_
      obtain ⟨r15, S13, h14, hf⟩ := cal_g hf
      refine go_i hH (run_V X hH (rest := []) (c_X6_meet N S6 r8 h14) gm_X6_67 (by decide) (e_0 E _) rfl rfl hl.1 (rmL_ok (by decide) (by decide)) (Nat.le_of_ble_eq_true rfl) rfl dX6_put_41) (fun H locs hH => ?_)
      clear h14
      exact r_iret X hH hf dX6_put_44
theorem c_X6_put {l : Launch} {E : Ev} (N : Nat) (S : St) (x1 : Int32) (x2 : Int32) (x3 : Int32) {r : Int32} {S1 : St} (hf : f_X6_put N S x1 x2 x3 = some (r, S1)) : Ct l yX6_put (.code yX6_put cX6_put 6 (some .int)) 3 E [.ref (bb E 0), .int x1, .int x2, .int x3] S (QI E r S1) := by
  refine Ct.of (by decide) (Nat.le_of_ble_eq_true rfl) (fun p e s m below meth c ls X hH hl => ?_)
  exact w_X6_put_0 X N S x1 x2 x3 hf _ _ hH _ hl
set_option maxRecDepth 100000 in
set_option maxHeartbeats 4000000 in
theorem w_X6_reading_0 {p : Program} {l : Launch} {e : Env} {s : State} {m : MethodId} {args : Array Value} {below : List Frame} {meth : Method} {c : Code} {E : Ev} {r : Int32} {S1 : St} (X : GX p s m meth c args cX6_reading 3 (some .int) RX6 E) (N : Nat) : ∀ (S : St) (x1 : Int32) (x2 : Int32), f_X6_reading N S x1 x2 = some (r, S1) → ∀ (H : Heap) (locs : List Loc), HH E S s H locs → ∀ ls : Array Slot, lv_has ls 3 [(0, .ref (bb E 0)), (1, .int x1), (2, .int x2)] → W p l e (rmL 2) s m args below meth c H locs 0 0 (MQ below (QI E r S1 s.heap.size) args s 0 0 (AA E s.heap.size)) (F0 m 0 ls []) := by
  have hx := X.1
  have hb := X.2.1
  intro S x1 x2 hf H locs hH ls hl
  rw [f_X6_reading] at hf
  refine lv_aload_n hx hb dX6_reading_0 rfl (lv_at hl 0 rfl) ?_
  refine fg_X6_12 X hH dX6_reading_1 ?_
  refine lv_iload_n hx hb dX6_reading_4 rfl (lv_at hl 1 rfl) ?_
  obtain ⟨r3, S1, h2, hf⟩ := cal_g hf
  refine go_q hH (run_V X hH (rest := []) (c_X0_macroOf N S x1 h2) gm_X6_88 (by decide) (e_1 E _) rfl rfl hl.1 (rmL_ok (by decide) (by decide)) (Nat.le_of_ble_eq_true rfl) rfl dX6_reading_5) (fun H locs hH => ?_)
  clear h2
  cases r3 with
  | none =>
    replace hf := opt_n hf
    refine lv_ifnonnullN hx hb dX6_reading_8 ?_
    refine lv_iconst (v := (-1 : Int32)) hx hb dX6_reading_11 (by decide) ?_
    exact r_iret X hH hf dX6_reading_12
  | some j4 =>
    replace hf := opt_s hf
    obtain ⟨hj4, hf⟩ := ite_g hf
    refine lv_ifnonnull (tgt := 13) hx hb dX6_reading_8 (by decide) ?_
    refine lv_iload_n hx hb dX6_reading_13 rfl (lv_at hl 2 rfl) ?_
    refine lv_if_lt (tgt := 22) hx hb dX6_reading_14 (by decide) (fun c0 => ?_) (fun c0 => ?_)
    · replace hf := ite_t c0 hf
      refine lv_bipush (v := (-2 : Int32)) hx hb dX6_reading_22 (by decide) ?_
      exact r_iret X hH hf dX6_reading_24
    · replace hf := ite_f c0 hf
      refine lv_iload_n hx hb dX6_reading_17 rfl (lv_at hl 2 rfl) ?_
      refine lv_iconst (v := (nI 5)) hx hb dX6_reading_18 (by decide) ?_
      refine lv_icmp_le (tgt := 25) hx hb dX6_reading_19 (by decide) (fun c0 => ?_) (fun c0 => ?_)
      · replace hf := ite_t c0 hf
        refine lv_aload_n hx hb dX6_reading_25 rfl (lv_at hl 0 rfl) ?_
        refine fg_X6_82 X hH dX6_reading_26 ?_
        refine lv_bipush (v := (nI 8)) hx hb dX6_reading_29 (by decide) ?_
        refine lv_icmp_lt (tgt := 37) hx hb dX6_reading_31 (by decide) (fun c0 => ?_) (fun c0 => ?_)
        · replace hf := ite_t c0 hf
          refine lv_aload_n hx hb dX6_reading_37 rfl (lv_at hl 0 rfl) ?_
          refine fg_X6_39 X hH dX6_reading_38 ?_
          refine lv_aload_n hx hb dX6_reading_41 rfl (lv_at hl 0 rfl) ?_
          refine fg_X6_82 X hH dX6_reading_42 ?_
          refine lv_iload_n hx hb dX6_reading_45 rfl (lv_at hl 1 rfl) ?_
          obtain ⟨g, hf⟩ := ite_g hf
          refine r_iast X hH (a_10 E) g dX6_reading_46 (fun H locs hH => ?_)
          obtain ⟨S5, ex, hf⟩ := bnd_go hf
          replace hH := HH_eq ex hH
          clear ex
          refine lv_aload_n hx hb dX6_reading_47 rfl (lv_at hl 0 rfl) ?_
          refine fg_X6_43 X hH dX6_reading_48 ?_
          refine lv_aload_n hx hb dX6_reading_51 rfl (lv_at hl 0 rfl) ?_
          refine fg_X6_82 X hH dX6_reading_52 ?_
          refine lv_iload_n hx hb dX6_reading_55 rfl (lv_at hl 2 rfl) ?_
          obtain ⟨g, hf⟩ := ite_g hf
          refine r_iast X hH (a_11 E) g dX6_reading_56 (fun H locs hH => ?_)
          obtain ⟨S6, ex, hf⟩ := bnd_go hf
          replace hH := HH_eq ex hH
          clear ex
          refine lv_aload_n hx hb dX6_reading_57 rfl (lv_at hl 0 rfl) ?_
          refine lv_dup hx hb dX6_reading_58 rfl ?_
          refine fg_X6_82 X hH dX6_reading_59 ?_
          refine lv_dup_x1 hx hb dX6_reading_62 rfl rfl ?_
          refine lv_iconst (v := (nI 1)) hx hb dX6_reading_63 (by decide) ?_
          refine lv_iadd hx hb dX6_reading_64 ?_
          refine fp_X6_82 X hH dX6_reading_65 (fun H locs hH => ?_)
          obtain ⟨S7, ex, hf⟩ := bnd_go hf
          replace hH := HH_eq ex hH
          clear ex
          exact r_iret X hH hf dX6_reading_68
        · replace hf := ite_f c0 hf
          refine lv_bipush (v := (-4 : Int32)) hx hb dX6_reading_34 (by decide) ?_
          exact r_iret X hH hf dX6_reading_36
      · replace hf := ite_f c0 hf
        refine lv_bipush (v := (-2 : Int32)) hx hb dX6_reading_22 (by decide) ?_
        exact r_iret X hH hf dX6_reading_24
theorem c_X6_reading {l : Launch} {E : Ev} (N : Nat) (S : St) (x1 : Int32) (x2 : Int32) {r : Int32} {S1 : St} (hf : f_X6_reading N S x1 x2 = some (r, S1)) : Ct l yX6_reading (.code yX6_reading cX6_reading 3 (some .int)) 2 E [.ref (bb E 0), .int x1, .int x2] S (QI E r S1) := by
  refine Ct.of (by decide) (Nat.le_of_ble_eq_true rfl) (fun p e s m below meth c ls X hH hl => ?_)
  exact w_X6_reading_0 X N S x1 x2 hf _ _ hH _ hl
set_option maxRecDepth 100000 in
set_option maxHeartbeats 4000000 in
theorem w_X6_row_0 {p : Program} {l : Launch} {e : Env} {s : State} {m : MethodId} {args : Array Value} {below : List Frame} {meth : Method} {c : Code} {E : Ev} {r : Int32} {S1 : St} (X : GX p s m meth c args cX6_row 8 (some .int) RX6 E) (N : Nat) : ∀ (S : St) (x1 : Int32) (x2 : Int32) (x3 : Int32) (x4 : Int32) (x5 : Int32), f_X6_row N S x1 x2 x3 x4 x5 = some (r, S1) → ∀ (H : Heap) (locs : List Loc), HH E S s H locs → ∀ ls : Array Slot, lv_has ls 8 [(0, .ref (bb E 0)), (1, .int x1), (2, .int x2), (3, .int x3), (4, .int x4), (5, .int x5)] → W p l e (rmL 57) s m args below meth c H locs 0 0 (MQ below (QI E r S1 s.heap.size) args s 0 0 (AA E s.heap.size)) (F0 m 0 ls []) := by
  have hx := X.1
  have hb := X.2.1
  intro S x1 x2 x3 x4 x5 hf H locs hH ls hl
  rw [f_X6_row] at hf
  refine lv_aload_n hx hb dX6_row_0 rfl (lv_at hl 0 rfl) ?_
  refine lv_iconst (v := (nI 0)) hx hb dX6_row_1 (by decide) ?_
  refine fp_X6_52 X hH dX6_row_2 (fun H locs hH => ?_)
  obtain ⟨S1, ex, hf⟩ := bnd_go hf
  replace hH := HH_eq ex hH
  clear ex
  refine lv_aload_n hx hb dX6_row_5 rfl (lv_at hl 0 rfl) ?_
  refine lv_iload_n hx hb dX6_row_6 rfl (lv_at hl 1 rfl) ?_
  obtain ⟨r4, S2, h3, hf⟩ := cal_g hf
  refine go_q hH (run_V X hH (rest := []) (c_X6_sheetOf N S1 x1 h3) gm_X6_55 (by decide) (e_0 E _) rfl rfl hl.1 (rmL_ok (by decide) (by decide)) (Nat.le_of_ble_eq_true rfl) rfl dX6_row_7) (fun H locs hH => ?_)
  clear h3
  cases r4 with
  | none =>
    replace hf := opt_n hf
    refine lv_astoreN (lv' := [(6, .null), (0, .ref (bb E 0)), (1, .int x1), (2, .int x2), (3, .int x3), (4, .int x4), (5, .int x5)]) hx hb dX6_row_10 hl (by decide) rfl (fun ls hl => ?_)
    refine lv_aloadN hx hb dX6_row_12 (lv_at hl 0 rfl) ?_
    refine lv_ifnonnullN hx hb dX6_row_14 ?_
    refine lv_iconst (v := (-1 : Int32)) hx hb dX6_row_17 (by decide) ?_
    exact r_iret X hH hf dX6_row_18
  | some j5 =>
    replace hf := opt_s hf
    obtain ⟨hj5, hf⟩ := ite_g hf
    refine lv_astore (lv' := [(6, .ref (bb E (12 + j5))), (0, .ref (bb E 0)), (1, .int x1), (2, .int x2), (3, .int x3), (4, .int x4), (5, .int x5)]) hx hb dX6_row_10 hl (by decide) rfl (fun ls hl => ?_)
    refine lv_aload hx hb dX6_row_12 (lv_at hl 0 rfl) ?_
    refine lv_ifnonnull (tgt := 19) hx hb dX6_row_14 (by decide) ?_
    refine lv_iload_n hx hb dX6_row_19 rfl (lv_at hl 3 rfl) ?_
    obtain ⟨r8, S6, h7, hf⟩ := cal_g hf
    refine go_i hH (run_S X hH (rest := []) (c_X6_isLane N S2 x2 h7) gm_X6_59 rfl hl.1 (rmL_ok (by decide) (by decide)) (Nat.le_of_ble_eq_true rfl) rfl dX6_row_20) (fun H locs hH => ?_)
    clear h7
    refine lv_if_eq (tgt := 46) hx hb dX6_row_23 (by decide) (fun c0 => ?_) (fun c0 => ?_)
    · replace hf := ite_t c0 hf
      refine lv_bipush (v := (-2 : Int32)) hx hb dX6_row_46 (by decide) ?_
      exact r_iret X hH hf dX6_row_48
    · replace hf := ite_f c0 hf
      refine lv_iload hx hb dX6_row_26 (lv_at hl 5 rfl) ?_
      refine lv_if_lt (tgt := 46) hx hb dX6_row_28 (by decide) (fun c0 => ?_) (fun c0 => ?_)
      · replace hf := ite_t c0 hf
        refine lv_bipush (v := (-2 : Int32)) hx hb dX6_row_46 (by decide) ?_
        exact r_iret X hH hf dX6_row_48
      · replace hf := ite_f c0 hf
        refine lv_iload hx hb dX6_row_31 (lv_at hl 5 rfl) ?_
        refine lv_bipush (v := (nI 20)) hx hb dX6_row_33 (by decide) ?_
        refine lv_icmp_gt (tgt := 46) hx hb dX6_row_35 (by decide) (fun c0 => ?_) (fun c0 => ?_)
        · replace hf := ite_t c0 hf
          refine lv_bipush (v := (-2 : Int32)) hx hb dX6_row_46 (by decide) ?_
          exact r_iret X hH hf dX6_row_48
        · replace hf := ite_f c0 hf
          refine lv_iload hx hb dX6_row_38 (lv_at hl 6 rfl) ?_
          obtain ⟨r11, S9, h10, hf⟩ := cal_g hf
          refine go_i hH (run_S X hH (rest := []) (c_X6_isOfRow N S6 x5 h10) gm_X6_136 rfl hl.1 (rmL_ok (by decide) (by decide)) (Nat.le_of_ble_eq_true rfl) rfl dX6_row_40) (fun H locs hH => ?_)
          clear h10
          refine lv_if_ne (tgt := 49) hx hb dX6_row_43 (by decide) (fun c0 => ?_) (fun c0 => ?_)
          · replace hf := ite_f c0 hf
            refine lv_aload hx hb dX6_row_49 (lv_at hl 0 rfl) ?_
            refine lv_iload_n hx hb dX6_row_51 rfl (lv_at hl 3 rfl) ?_
            refine lv_iload_n hx hb dX6_row_52 rfl (lv_at hl 4 rfl) ?_
            refine lv_iload hx hb dX6_row_53 (lv_at hl 5 rfl) ?_
            obtain ⟨r14, S12, h13, hf⟩ := cal_g hf
            refine go_i hH (run_V X hH (rest := []) (c_X5_faultOf N S9 j5 x2 x3 x4 hj5 h13) gm_X6_63 (sh54 hj5) (e_sh E hj5 _) rfl rfl hl.1 (rmL_ok (by decide) (by decide)) (Nat.le_of_ble_eq_true rfl) rfl dX6_row_55) (fun H locs hH => ?_)
            clear h13
            refine lv_istore (lv' := [(7, .int r14), (6, .ref (bb E (12 + j5))), (0, .ref (bb E 0)), (1, .int x1), (2, .int x2), (3, .int x3), (4, .int x4), (5, .int x5)]) hx hb dX6_row_58 hl (by decide) rfl (fun ls hl => ?_)
            refine lv_iload hx hb dX6_row_60 (lv_at hl 0 rfl) ?_
            refine lv_if_eq (tgt := 72) hx hb dX6_row_62 (by decide) (fun c0 => ?_) (fun c0 => ?_)
            · replace hf := ite_t c0 hf
              refine lv_aload hx hb dX6_row_72 (lv_at hl 1 rfl) ?_
              refine lv_iload_n hx hb dX6_row_74 rfl (lv_at hl 5 rfl) ?_
              refine lv_iload hx hb dX6_row_75 (lv_at hl 6 rfl) ?_
              refine lv_bipush (v := (nI 10)) hx hb dX6_row_77 (by decide) ?_
              obtain ⟨r17, S15, h16, hf⟩ := cal_g hf
              refine go_i hH (run_V X hH (rest := []) (c_X5_allWithin N S12 j5 x3 x4 (nI 10) hj5 h16) gm_X6_139 (sh54 hj5) (e_sh E hj5 _) rfl rfl hl.1 (rmL_ok (by decide) (by decide)) (Nat.le_of_ble_eq_true rfl) rfl dX6_row_79) (fun H locs hH => ?_)
              clear h16
              refine lv_if_ne (tgt := 88) hx hb dX6_row_82 (by decide) (fun c0 => ?_) (fun c0 => ?_)
              · replace hf := ite_f c0 hf
                refine lv_aload hx hb dX6_row_88 (lv_at hl 1 rfl) ?_
                refine lv_iload_n hx hb dX6_row_90 rfl (lv_at hl 5 rfl) ?_
                refine lv_iload hx hb dX6_row_91 (lv_at hl 6 rfl) ?_
                refine lv_aload_n hx hb dX6_row_93 rfl (lv_at hl 2 rfl) ?_
                refine fg_X6_12 X hH dX6_row_94 ?_
                obtain ⟨r20, S18, h19, hf⟩ := cal_g hf
                refine go_i hH (run_V X hH (rest := [.int x4, .int x3, .ref (bb E (12 + j5))]) (c_X0_keysThereAre N S15 h19) gm_X6_143 (by decide) (e_1 E _) rfl rfl hl.1 (rmL_ok (by decide) (by decide)) (Nat.le_of_ble_eq_true rfl) rfl dX6_row_97) (fun H locs hH => ?_)
                clear h19
                refine lv_iconst (v := (nI 1)) hx hb dX6_row_100 (by decide) ?_
                refine lv_isub hx hb dX6_row_101 ?_
                obtain ⟨r23, S21, h22, hf⟩ := cal_g hf
                refine go_i hH (run_V X hH (rest := []) (c_X5_allWithin N S18 j5 x3 x4 (r20 - (nI 1)) hj5 h22) gm_X6_139 (sh54 hj5) (e_sh E hj5 _) rfl rfl hl.1 (rmL_ok (by decide) (by decide)) (Nat.le_of_ble_eq_true rfl) rfl dX6_row_102) (fun H locs hH => ?_)
                clear h22
                refine lv_if_ne (tgt := 110) hx hb dX6_row_105 (by decide) (fun c0 => ?_) (fun c0 => ?_)
                · replace hf := ite_f c0 hf
                  refine lv_aload_n hx hb dX6_row_110 rfl (lv_at hl 2 rfl) ?_
                  refine lv_aload hx hb dX6_row_111 (lv_at hl 1 rfl) ?_
                  refine lv_iload_n hx hb dX6_row_113 rfl (lv_at hl 5 rfl) ?_
                  refine lv_iload hx hb dX6_row_114 (lv_at hl 6 rfl) ?_
                  refine lv_iload hx hb dX6_row_116 (lv_at hl 7 rfl) ?_
                  obtain ⟨r26, S24, h25, hf⟩ := cal_g hf
                  refine go_i hH (run_V X hH (rest := []) (c_X6_ofRow N S21 j5 x3 x4 x5 hj5 h25) gm_X6_146 (by decide) (e_0 E _) rfl rfl hl.1 (rmL_ok (by decide) (by decide)) (Nat.le_of_ble_eq_true rfl) rfl dX6_row_118) (fun H locs hH => ?_)
                  clear h25
                  exact r_iret X hH hf dX6_row_121
                · replace hf := ite_t c0 hf
                  refine lv_iconst (v := (-1 : Int32)) hx hb dX6_row_108 (by decide) ?_
                  exact r_iret X hH hf dX6_row_109
              · replace hf := ite_t c0 hf
                refine lv_bipush (v := (-2 : Int32)) hx hb dX6_row_85 (by decide) ?_
                exact r_iret X hH hf dX6_row_87
            · replace hf := ite_f c0 hf
              refine lv_aload_n hx hb dX6_row_65 rfl (lv_at hl 2 rfl) ?_
              refine lv_iload hx hb dX6_row_66 (lv_at hl 0 rfl) ?_
              obtain ⟨r29, S27, h28, hf⟩ := cal_g hf
              refine go_i hH (run_V X hH (rest := []) (c_X6_meet N S12 r14 h28) gm_X6_67 (by decide) (e_0 E _) rfl rfl hl.1 (rmL_ok (by decide) (by decide)) (Nat.le_of_ble_eq_true rfl) rfl dX6_row_68) (fun H locs hH => ?_)
              clear h28
              exact r_iret X hH hf dX6_row_71
          · replace hf := ite_t c0 hf
            refine lv_bipush (v := (-2 : Int32)) hx hb dX6_row_46 (by decide) ?_
            exact r_iret X hH hf dX6_row_48
theorem c_X6_row {l : Launch} {E : Ev} (N : Nat) (S : St) (x1 : Int32) (x2 : Int32) (x3 : Int32) (x4 : Int32) (x5 : Int32) {r : Int32} {S1 : St} (hf : f_X6_row N S x1 x2 x3 x4 x5 = some (r, S1)) : Ct l yX6_row (.code yX6_row cX6_row 8 (some .int)) 57 E [.ref (bb E 0), .int x1, .int x2, .int x3, .int x4, .int x5] S (QI E r S1) := by
  refine Ct.of (by decide) (Nat.le_of_ble_eq_true rfl) (fun p e s m below meth c ls X hH hl => ?_)
  exact w_X6_row_0 X N S x1 x2 x3 x4 x5 hf _ _ hH _ hl
set_option maxRecDepth 100000 in
set_option maxHeartbeats 4000000 in
theorem w_X6_sheet_0 {p : Program} {l : Launch} {e : Env} {s : State} {m : MethodId} {args : Array Value} {below : List Frame} {meth : Method} {c : Code} {E : Ev} {r : Int32} {S1 : St} (X : GX p s m meth c args cX6_sheet 5 (some .int) RX6 E) (N : Nat) : ∀ (S : St) (x1 : Int32) (x2 : Int32) (x3 : Int32), f_X6_sheet N S x1 x2 x3 = some (r, S1) → ∀ (H : Heap) (locs : List Loc), HH E S s H locs → ∀ ls : Array Slot, lv_has ls 5 [(0, .ref (bb E 0)), (1, .int x1), (2, .int x2), (3, .int x3)] → W p l e (rmL 3) s m args below meth c H locs 0 0 (MQ below (QI E r S1 s.heap.size) args s 0 0 (AA E s.heap.size)) (F0 m 0 ls []) := by
  have hx := X.1
  have hb := X.2.1
  intro S x1 x2 x3 hf H locs hH ls hl
  rw [f_X6_sheet] at hf
  refine lv_aload_n hx hb dX6_sheet_0 rfl (lv_at hl 0 rfl) ?_
  refine lv_iconst (v := (nI 0)) hx hb dX6_sheet_1 (by decide) ?_
  refine fp_X6_52 X hH dX6_sheet_2 (fun H locs hH => ?_)
  obtain ⟨S1, ex, hf⟩ := bnd_go hf
  replace hH := HH_eq ex hH
  clear ex
  refine lv_aload_n hx hb dX6_sheet_5 rfl (lv_at hl 0 rfl) ?_
  refine lv_iload_n hx hb dX6_sheet_6 rfl (lv_at hl 1 rfl) ?_
  obtain ⟨r4, S2, h3, hf⟩ := cal_g hf
  refine go_q hH (run_V X hH (rest := []) (c_X6_sheetOf N S1 x1 h3) gm_X6_55 (by decide) (e_0 E _) rfl rfl hl.1 (rmL_ok (by decide) (by decide)) (Nat.le_of_ble_eq_true rfl) rfl dX6_sheet_7) (fun H locs hH => ?_)
  clear h3
  cases r4 with
  | none =>
    replace hf := opt_n hf
    refine lv_astoreN (lv' := [(4, .null), (0, .ref (bb E 0)), (1, .int x1), (2, .int x2), (3, .int x3)]) hx hb dX6_sheet_10 hl (by decide) rfl (fun ls hl => ?_)
    refine lv_aloadN hx hb dX6_sheet_12 (lv_at hl 0 rfl) ?_
    refine lv_ifnonnullN hx hb dX6_sheet_14 ?_
    refine lv_iconst (v := (-1 : Int32)) hx hb dX6_sheet_17 (by decide) ?_
    exact r_iret X hH hf dX6_sheet_18
  | some j5 =>
    replace hf := opt_s hf
    obtain ⟨hj5, hf⟩ := ite_g hf
    refine lv_astore (lv' := [(4, .ref (bb E (12 + j5))), (0, .ref (bb E 0)), (1, .int x1), (2, .int x2), (3, .int x3)]) hx hb dX6_sheet_10 hl (by decide) rfl (fun ls hl => ?_)
    refine lv_aload hx hb dX6_sheet_12 (lv_at hl 0 rfl) ?_
    refine lv_ifnonnull (tgt := 19) hx hb dX6_sheet_14 (by decide) ?_
    refine lv_iload_n hx hb dX6_sheet_19 rfl (lv_at hl 3 rfl) ?_
    obtain ⟨r8, S6, h7, hf⟩ := cal_g hf
    refine go_i hH (run_S X hH (rest := []) (c_X6_isLane N S2 x2 h7) gm_X6_59 rfl hl.1 (rmL_ok (by decide) (by decide)) (Nat.le_of_ble_eq_true rfl) rfl dX6_sheet_20) (fun H locs hH => ?_)
    clear h7
    refine lv_if_eq (tgt := 32) hx hb dX6_sheet_23 (by decide) (fun c0 => ?_) (fun c0 => ?_)
    · replace hf := ite_t c0 hf
      refine lv_bipush (v := (-2 : Int32)) hx hb dX6_sheet_32 (by decide) ?_
      exact r_iret X hH hf dX6_sheet_34
    · replace hf := ite_f c0 hf
      refine lv_iload_n hx hb dX6_sheet_26 rfl (lv_at hl 4 rfl) ?_
      refine lv_bipush (v := (nI 60)) hx hb dX6_sheet_27 (by decide) ?_
      refine lv_icmp_le (tgt := 35) hx hb dX6_sheet_29 (by decide) (fun c0 => ?_) (fun c0 => ?_)
      · replace hf := ite_t c0 hf
        refine lv_iload_n hx hb dX6_sheet_35 rfl (lv_at hl 4 rfl) ?_
        refine lv_if_ge (tgt := 45) hx hb dX6_sheet_36 (by decide) (fun c0 => ?_) (fun c0 => ?_)
        · replace hf := ite_t c0 hf
          refine lv_aload hx hb dX6_sheet_45 (lv_at hl 0 rfl) ?_
          refine lv_iload_n hx hb dX6_sheet_47 rfl (lv_at hl 3 rfl) ?_
          refine lv_iload_n hx hb dX6_sheet_48 rfl (lv_at hl 4 rfl) ?_
          obtain ⟨_, S9, h10, hf⟩ := cal_g hf
          refine go_v hH (run_V X hH (rest := []) (c_X5_renew N S6 j5 x2 x3 hj5 h10) gm_X6_200 (sh54 hj5) (e_sh E hj5 _) rfl rfl hl.1 (rmL_ok (by decide) (by decide)) (Nat.le_of_ble_eq_true rfl) rfl dX6_sheet_49) (fun H locs hH => ?_)
          clear h10
          refine lv_iconst (v := (nI 1)) hx hb dX6_sheet_52 (by decide) ?_
          exact r_iret X hH hf dX6_sheet_53
        · replace hf := ite_f c0 hf
          refine lv_aload_n hx hb dX6_sheet_39 rfl (lv_at hl 1 rfl) ?_
          refine lv_iconst (v := (nI 4)) hx hb dX6_sheet_40 (by decide) ?_
          obtain ⟨r14, S12, h13, hf⟩ := cal_g hf
          refine go_i hH (run_V X hH (rest := []) (c_X6_meet N S6 (nI 4) h13) gm_X6_67 (by decide) (e_0 E _) rfl rfl hl.1 (rmL_ok (by decide) (by decide)) (Nat.le_of_ble_eq_true rfl) rfl dX6_sheet_41) (fun H locs hH => ?_)
          clear h13
          exact r_iret X hH hf dX6_sheet_44
      · replace hf := ite_f c0 hf
        refine lv_bipush (v := (-2 : Int32)) hx hb dX6_sheet_32 (by decide) ?_
        exact r_iret X hH hf dX6_sheet_34
theorem c_X6_sheet {l : Launch} {E : Ev} (N : Nat) (S : St) (x1 : Int32) (x2 : Int32) (x3 : Int32) {r : Int32} {S1 : St} (hf : f_X6_sheet N S x1 x2 x3 = some (r, S1)) : Ct l yX6_sheet (.code yX6_sheet cX6_sheet 5 (some .int)) 3 E [.ref (bb E 0), .int x1, .int x2, .int x3] S (QI E r S1) := by
  refine Ct.of (by decide) (Nat.le_of_ble_eq_true rfl) (fun p e s m below meth c ls X hH hl => ?_)
  exact w_X6_sheet_0 X N S x1 x2 x3 hf _ _ hH _ hl
set_option maxRecDepth 100000 in
set_option maxHeartbeats 4000000 in
theorem w_X6_still_17 {p : Program} {l : Launch} {e : Env} {s : State} {m : MethodId} {args : Array Value} {below : List Frame} {meth : Method} {c : Code} {E : Ev} {r : Int32} {S1 : St} (X : GX p s m meth c args cX6_still 4 (some .int) RX6 E) (N : Nat) : ∀ (n : Nat) (S : St) (x1 : Int32) (x2 : Int32) (x3 : Int32), f_X6_still_17 N n S x1 x2 x3 = some (r, S1) → ∀ (H : Heap) (locs : List Loc), HH E S s H locs → ∀ ls : Array Slot, lv_has ls 4 [(0, .ref (bb E 0)), (1, .int x1), (2, .int x2), (3, .int x3)] → W p l e (rmL 57) s m args below meth c H locs 0 0 (MQ below (QI E r S1 s.heap.size) args s 0 0 (AA E s.heap.size)) (F0 m 17 ls []) := by
  have hx := X.1
  have hb := X.2.1
  intro n
  induction n with
  | zero =>
    intro S x1 x2 x3 hf
    cases hf
  | succ n ih =>
    intro S x1 x2 x3 hf H locs hH ls hl
    rw [f_X6_still_17] at hf
    refine lv_iload_n hx hb dX6_still_17 rfl (lv_at hl 3 rfl) ?_
    refine lv_sipush (v := (nI 7737)) hx hb dX6_still_18 (by decide) ?_
    refine lv_icmp_ge (tgt := 46) hx hb dX6_still_21 (by decide) (fun c0 => ?_) (fun c0 => ?_)
    · replace hf := ite_t c0 hf
      refine lv_iload_n hx hb dX6_still_46 rfl (lv_at hl 2 rfl) ?_
      exact r_iret X hH hf dX6_still_47
    · replace hf := ite_f c0 hf
      refine lv_aload_n hx hb dX6_still_24 rfl (lv_at hl 0 rfl) ?_
      refine fg_X6_12 X hH dX6_still_25 ?_
      refine lv_iload_n hx hb dX6_still_28 rfl (lv_at hl 3 rfl) ?_
      refine lv_iload_n hx hb dX6_still_29 rfl (lv_at hl 1 rfl) ?_
      obtain ⟨r3, S1, h2, hf⟩ := cal_g hf
      refine go_i hH (run_V X hH (rest := []) (c_X0_lineAfter N S x3 x1 h2) gm_X6_185 (by decide) (e_1 E _) rfl rfl hl.1 (rmL_ok (by decide) (by decide)) (Nat.le_of_ble_eq_true rfl) rfl dX6_still_30) (fun H locs hH => ?_)
      clear h2
      refine lv_iload_n hx hb dX6_still_33 rfl (lv_at hl 3 rfl) ?_
      refine lv_icmp_ne (tgt := 40) hx hb dX6_still_34 (by decide) (fun c0 => ?_) (fun c0 => ?_)
      · replace hf := ite_f c0 hf
        obtain ⟨y4, ex, hf⟩ := bnd_go hf
        refine lv_iinc (v := y4) (lv' := [(3, .int y4), (0, .ref (bb E 0)), (1, .int x1), (2, .int x2)]) hx hb dX6_still_40 hl (k := 3) rfl (by rw [ex]; rfl) (by decide) rfl (fun ls hl => ?_)
        clear ex
        refine lv_goto (tgt := 17) hx hb dX6_still_43 (by decide) ?_
        exact ih S1 x1 x2 y4 hf _ _ hH _ (lv_sub hl [1, 2, 3, 0] rfl)
      · replace hf := ite_t c0 hf
        obtain ⟨y5, ex, hf⟩ := bnd_go hf
        refine lv_iinc (v := y5) (lv' := [(2, .int y5), (0, .ref (bb E 0)), (1, .int x1), (3, .int x3)]) hx hb dX6_still_37 hl (k := 2) rfl (by rw [ex]; rfl) (by decide) rfl (fun ls hl => ?_)
        clear ex
        obtain ⟨y6, ex, hf⟩ := bnd_go hf
        refine lv_iinc (v := y6) (lv' := [(3, .int y6), (2, .int y5), (0, .ref (bb E 0)), (1, .int x1)]) hx hb dX6_still_40 hl (k := 3) rfl (by rw [ex]; rfl) (by decide) rfl (fun ls hl => ?_)
        clear ex
        refine lv_goto (tgt := 17) hx hb dX6_still_43 (by decide) ?_
        exact ih S1 x1 y5 y6 hf _ _ hH _ (lv_sub hl [2, 3, 1, 0] rfl)
set_option maxRecDepth 100000 in
set_option maxHeartbeats 4000000 in
theorem w_X6_still_0 {p : Program} {l : Launch} {e : Env} {s : State} {m : MethodId} {args : Array Value} {below : List Frame} {meth : Method} {c : Code} {E : Ev} {r : Int32} {S1 : St} (X : GX p s m meth c args cX6_still 4 (some .int) RX6 E) (N : Nat) : ∀ (S : St) (x1 : Int32), f_X6_still N S x1 = some (r, S1) → ∀ (H : Heap) (locs : List Loc), HH E S s H locs → ∀ ls : Array Slot, lv_has ls 4 [(0, .ref (bb E 0)), (1, .int x1)] → W p l e (rmL 57) s m args below meth c H locs 0 0 (MQ below (QI E r S1 s.heap.size) args s 0 0 (AA E s.heap.size)) (F0 m 0 ls []) := by
  have hx := X.1
  have hb := X.2.1
  intro S x1 hf H locs hH ls hl
  rw [f_X6_still] at hf
  refine lv_aload_n hx hb dX6_still_0 rfl (lv_at hl 0 rfl) ?_
  refine fg_X6_12 X hH dX6_still_1 ?_
  refine lv_iload_n hx hb dX6_still_4 rfl (lv_at hl 1 rfl) ?_
  obtain ⟨r3, S1, h2, hf⟩ := cal_g hf
  refine go_i hH (run_V X hH (rest := []) (c_X0_isKey N S x1 h2) gm_X6_182 (by decide) (e_1 E _) rfl rfl hl.1 (rmL_ok (by decide) (by decide)) (Nat.le_of_ble_eq_true rfl) rfl dX6_still_5) (fun H locs hH => ?_)
  clear h2
  refine lv_if_ne (tgt := 13) hx hb dX6_still_8 (by decide) (fun c0 => ?_) (fun c0 => ?_)
  · replace hf := ite_f c0 hf
    refine lv_iconst (v := (nI 0)) hx hb dX6_still_13 (by decide) ?_
    refine lv_topi (fun y4 ex => ?_)
    replace hf := bnd_at ex hf
    clear ex
    refine lv_istore_n (lv' := [(2, .int y4), (0, .ref (bb E 0)), (1, .int x1)]) hx hb dX6_still_14 rfl hl (by decide) rfl (fun ls hl => ?_)
    refine lv_iconst (v := (nI 0)) hx hb dX6_still_15 (by decide) ?_
    refine lv_topi (fun y5 ex => ?_)
    replace hf := bnd_at ex hf
    clear ex
    refine lv_istore_n (lv' := [(3, .int y5), (2, .int y4), (0, .ref (bb E 0)), (1, .int x1)]) hx hb dX6_still_16 rfl hl (by decide) rfl (fun ls hl => ?_)
    exact w_X6_still_17 X N N S1 x1 y4 y5 hf _ _ hH _ (lv_sub hl [2, 3, 1, 0] rfl)
  · replace hf := ite_t c0 hf
    refine lv_iconst (v := (-1 : Int32)) hx hb dX6_still_11 (by decide) ?_
    exact r_iret X hH hf dX6_still_12
theorem c_X6_still {l : Launch} {E : Ev} (N : Nat) (S : St) (x1 : Int32) {r : Int32} {S1 : St} (hf : f_X6_still N S x1 = some (r, S1)) : Ct l yX6_still (.code yX6_still cX6_still 4 (some .int)) 57 E [.ref (bb E 0), .int x1] S (QI E r S1) := by
  refine Ct.of (by decide) (Nat.le_of_ble_eq_true rfl) (fun p e s m below meth c ls X hH hl => ?_)
  exact w_X6_still_0 X N S x1 hf _ _ hH _ hl
set_option maxRecDepth 100000 in
set_option maxHeartbeats 4000000 in
theorem w_X6_tell_0 {p : Program} {l : Launch} {e : Env} {s : State} {m : MethodId} {args : Array Value} {below : List Frame} {meth : Method} {c : Code} {E : Ev} {r : Int32} {S1 : St} (X : GX p s m meth c args cX6_tell 3 (some .int) RX6 E) (N : Nat) : ∀ (S : St) (x1 : Int32), f_X6_tell N S x1 = some (r, S1) → ∀ (H : Heap) (locs : List Loc), HH E S s H locs → ∀ ls : Array Slot, lv_has ls 3 [(0, .ref (bb E 0)), (1, .int x1)] → W p l e (rmL 5) s m args below meth c H locs 0 0 (MQ below (QI E r S1 s.heap.size) args s 0 0 (AA E s.heap.size)) (F0 m 0 ls []) := by
  have hx := X.1
  have hb := X.2.1
  intro S x1 hf H locs hH ls hl
  rw [f_X6_tell] at hf
  refine lv_aload_n hx hb dX6_tell_0 rfl (lv_at hl 0 rfl) ?_
  refine fg_X6_12 X hH dX6_tell_1 ?_
  refine lv_iload_n hx hb dX6_tell_4 rfl (lv_at hl 1 rfl) ?_
  obtain ⟨r3, S1, h2, hf⟩ := cal_g hf
  refine go_q hH (run_V X hH (rest := []) (c_X0_macroOf N S x1 h2) gm_X6_88 (by decide) (e_1 E _) rfl rfl hl.1 (rmL_ok (by decide) (by decide)) (Nat.le_of_ble_eq_true rfl) rfl dX6_tell_5) (fun H locs hH => ?_)
  clear h2
  cases r3 with
  | none =>
    replace hf := opt_n hf
    refine lv_astore_nN (lv' := [(2, .null), (0, .ref (bb E 0)), (1, .int x1)]) hx hb dX6_tell_8 rfl hl (by decide) rfl (fun ls hl => ?_)
    refine lv_aload_nN hx hb dX6_tell_9 rfl (lv_at hl 0 rfl) ?_
    refine lv_ifnonnullN hx hb dX6_tell_10 ?_
    refine lv_iconst (v := (-1 : Int32)) hx hb dX6_tell_13 (by decide) ?_
    exact r_iret X hH hf dX6_tell_14
  | some j4 =>
    replace hf := opt_s hf
    obtain ⟨hj4, hf⟩ := ite_g hf
    refine lv_astore_n (lv' := [(2, .ref (bb E (20 + j4))), (0, .ref (bb E 0)), (1, .int x1)]) hx hb dX6_tell_8 rfl hl (by decide) rfl (fun ls hl => ?_)
    refine lv_aload_n hx hb dX6_tell_9 rfl (lv_at hl 0 rfl) ?_
    refine lv_ifnonnull (tgt := 15) hx hb dX6_tell_10 (by decide) ?_
    refine lv_aload_n hx hb dX6_tell_15 rfl (lv_at hl 0 rfl) ?_
    refine fg_X6_92 X hH hj4 dX6_tell_16 ?_
    refine lv_topi (fun y5 ex => ?_)
    replace hf := bnd_at ex hf
    clear ex
    by_cases c0 : y5 = (nI 1)
    · replace hf := ite_t c0 hf
      subst c0
      refine lv_lookup (tgt := 50) hx hb dX6_tell_19 (by decide) rfl (by decide) ?_
      refine lv_aload_n hx hb dX6_tell_50 rfl (lv_at hl 1 rfl) ?_
      refine lv_aload_n hx hb dX6_tell_51 rfl (lv_at hl 0 rfl) ?_
      obtain ⟨r8, S6, h7, hf⟩ := cal_g hf
      refine go_i hH (run_V X hH (rest := []) (c_X6_broadTells N S1 j4 hj4 h7) gm_X6_224 (by decide) (e_0 E _) rfl rfl hl.1 (rmL_ok (by decide) (by decide)) (Nat.le_of_ble_eq_true rfl) rfl dX6_tell_52) (fun H locs hH => ?_)
      clear h7
      exact r_iret X hH hf dX6_tell_55
    · replace hf := ite_f c0 hf
      by_cases c1 : y5 = (nI 2)
      · replace hf := ite_t c1 hf
        subst c1
        refine lv_lookup (tgt := 44) hx hb dX6_tell_19 (by decide) rfl (by decide) ?_
        refine lv_aload_n hx hb dX6_tell_44 rfl (lv_at hl 1 rfl) ?_
        refine lv_aload_n hx hb dX6_tell_45 rfl (lv_at hl 0 rfl) ?_
        obtain ⟨r11, S9, h10, hf⟩ := cal_g hf
        refine go_i hH (run_V X hH (rest := []) (c_X6_evenTells N S1 j4 hj4 h10) gm_X6_220 (by decide) (e_0 E _) rfl rfl hl.1 (rmL_ok (by decide) (by decide)) (Nat.le_of_ble_eq_true rfl) rfl dX6_tell_46) (fun H locs hH => ?_)
        clear h10
        exact r_iret X hH hf dX6_tell_49
      · replace hf := ite_f c1 hf
        refine lv_lookup (off := 37) (tgt := 56) hx hb dX6_tell_19 (by decide) ((lv_osw (a := 1) (o := 31) (d := 37) (r := [(2, 25)]) c0 rfl).trans ((lv_osw (a := 2) (o := 25) (d := 37) (r := []) c1 rfl).trans rfl)) (by decide) ?_
        refine lv_aload_n hx hb dX6_tell_56 rfl (lv_at hl 1 rfl) ?_
        refine lv_aload_n hx hb dX6_tell_57 rfl (lv_at hl 0 rfl) ?_
        obtain ⟨r14, S12, h13, hf⟩ := cal_g hf
        refine go_i hH (run_V X hH (rest := []) (c_X6_plainTells N S1 j4 hj4 h13) gm_X6_227 (by decide) (e_0 E _) rfl rfl hl.1 (rmL_ok (by decide) (by decide)) (Nat.le_of_ble_eq_true rfl) rfl dX6_tell_58) (fun H locs hH => ?_)
        clear h13
        exact r_iret X hH hf dX6_tell_61
theorem c_X6_tell {l : Launch} {E : Ev} (N : Nat) (S : St) (x1 : Int32) {r : Int32} {S1 : St} (hf : f_X6_tell N S x1 = some (r, S1)) : Ct l yX6_tell (.code yX6_tell cX6_tell 3 (some .int)) 5 E [.ref (bb E 0), .int x1] S (QI E r S1) := by
  refine Ct.of (by decide) (Nat.le_of_ble_eq_true rfl) (fun p e s m below meth c ls X hH hl => ?_)
  exact w_X6_tell_0 X N S x1 hf _ _ hH _ hl
set_option maxRecDepth 100000 in
set_option maxHeartbeats 4000000 in
theorem w_X6_times_0 {p : Program} {l : Launch} {e : Env} {s : State} {m : MethodId} {args : Array Value} {below : List Frame} {meth : Method} {c : Code} {E : Ev} {r : Int32} {S1 : St} (X : GX p s m meth c args cX6_times 5 (some .int) RX6 E) (N : Nat) : ∀ (S : St) (x1 : Int32) (x2 : Int32), f_X6_times N S x1 x2 = some (r, S1) → ∀ (H : Heap) (locs : List Loc), HH E S s H locs → ∀ ls : Array Slot, lv_has ls 5 [(0, .ref (bb E 0)), (1, .int x1), (2, .int x2)] → W p l e (rmL 5) s m args below meth c H locs 0 0 (MQ below (QI E r S1 s.heap.size) args s 0 0 (AA E s.heap.size)) (F0 m 0 ls []) := by
  have hx := X.1
  have hb := X.2.1
  intro S x1 x2 hf H locs hH ls hl
  rw [f_X6_times] at hf
  refine lv_aload_n hx hb dX6_times_0 rfl (lv_at hl 0 rfl) ?_
  refine fg_X6_12 X hH dX6_times_1 ?_
  refine lv_iload_n hx hb dX6_times_4 rfl (lv_at hl 1 rfl) ?_
  obtain ⟨r3, S1, h2, hf⟩ := cal_g hf
  refine go_q hH (run_V X hH (rest := []) (c_X0_macroOf N S x1 h2) gm_X6_88 (by decide) (e_1 E _) rfl rfl hl.1 (rmL_ok (by decide) (by decide)) (Nat.le_of_ble_eq_true rfl) rfl dX6_times_5) (fun H locs hH => ?_)
  clear h2
  cases r3 with
  | none =>
    replace hf := opt_n hf
    refine lv_astore_nN (lv' := [(3, .null), (0, .ref (bb E 0)), (1, .int x1), (2, .int x2)]) hx hb dX6_times_8 rfl hl (by decide) rfl (fun ls hl => ?_)
    refine lv_aload_nN hx hb dX6_times_9 rfl (lv_at hl 0 rfl) ?_
    refine lv_ifnonnullN hx hb dX6_times_10 ?_
    refine lv_iconst (v := (-1 : Int32)) hx hb dX6_times_13 (by decide) ?_
    exact r_iret X hH hf dX6_times_14
  | some j4 =>
    replace hf := opt_s hf
    obtain ⟨hj4, hf⟩ := ite_g hf
    refine lv_astore_n (lv' := [(3, .ref (bb E (20 + j4))), (0, .ref (bb E 0)), (1, .int x1), (2, .int x2)]) hx hb dX6_times_8 rfl hl (by decide) rfl (fun ls hl => ?_)
    refine lv_aload_n hx hb dX6_times_9 rfl (lv_at hl 0 rfl) ?_
    refine lv_ifnonnull (tgt := 15) hx hb dX6_times_10 (by decide) ?_
    refine lv_iload_n hx hb dX6_times_15 rfl (lv_at hl 3 rfl) ?_
    refine lv_iconst (v := (nI 1)) hx hb dX6_times_16 (by decide) ?_
    refine lv_icmp_lt (tgt := 25) hx hb dX6_times_17 (by decide) (fun c0 => ?_) (fun c0 => ?_)
    · replace hf := ite_t c0 hf
      refine lv_bipush (v := (-2 : Int32)) hx hb dX6_times_25 (by decide) ?_
      exact r_iret X hH hf dX6_times_27
    · replace hf := ite_f c0 hf
      refine lv_iload_n hx hb dX6_times_20 rfl (lv_at hl 3 rfl) ?_
      refine lv_iconst (v := (nI 3)) hx hb dX6_times_21 (by decide) ?_
      refine lv_icmp_le (tgt := 28) hx hb dX6_times_22 (by decide) (fun c0 => ?_) (fun c0 => ?_)
      · replace hf := ite_t c0 hf
        refine lv_aload_n hx hb dX6_times_28 rfl (lv_at hl 0 rfl) ?_
        refine fg_X6_97 X hH hj4 dX6_times_29 ?_
        refine lv_topi (fun y5 ex => ?_)
        replace hf := bnd_at ex hf
        clear ex
        refine lv_istore (lv' := [(4, .int y5), (3, .ref (bb E (20 + j4))), (0, .ref (bb E 0)), (1, .int x1), (2, .int x2)]) hx hb dX6_times_32 hl (by decide) rfl (fun ls hl => ?_)
        refine lv_aload_n hx hb dX6_times_34 rfl (lv_at hl 2 rfl) ?_
        refine fg_X6_12 X hH dX6_times_35 ?_
        refine lv_iload_n hx hb dX6_times_38 rfl (lv_at hl 3 rfl) ?_
        refine lv_aload_n hx hb dX6_times_39 rfl (lv_at hl 1 rfl) ?_
        refine fg_X6_92 X hH hj4 dX6_times_40 ?_
        refine lv_iload_n hx hb dX6_times_43 rfl (lv_at hl 4 rfl) ?_
        obtain ⟨_, S6, h7, hf⟩ := cal_g hf
        refine go_v hH (run_V X hH (rest := []) (c_X0_change N S1 x1 (S1 (20 + j4) 0) x2 h7) gm_X6_113 (by decide) (e_1 E _) rfl rfl hl.1 (rmL_ok (by decide) (by decide)) (Nat.le_of_ble_eq_true rfl) rfl dX6_times_44) (fun H locs hH => ?_)
        clear h7
        refine lv_iload hx hb dX6_times_47 (lv_at hl 0 rfl) ?_
        exact r_iret X hH hf dX6_times_49
      · replace hf := ite_f c0 hf
        refine lv_bipush (v := (-2 : Int32)) hx hb dX6_times_25 (by decide) ?_
        exact r_iret X hH hf dX6_times_27
theorem c_X6_times {l : Launch} {E : Ev} (N : Nat) (S : St) (x1 : Int32) (x2 : Int32) {r : Int32} {S1 : St} (hf : f_X6_times N S x1 x2 = some (r, S1)) : Ct l yX6_times (.code yX6_times cX6_times 5 (some .int)) 5 E [.ref (bb E 0), .int x1, .int x2] S (QI E r S1) := by
  refine Ct.of (by decide) (Nat.le_of_ble_eq_true rfl) (fun p e s m below meth c ls X hH hl => ?_)
  exact w_X6_times_0 X N S x1 x2 hf _ _ hH _ hl
set_option maxRecDepth 100000 in
set_option maxHeartbeats 4000000 in
theorem w_X6_timings_26 {p : Program} {l : Launch} {e : Env} {s : State} {m : MethodId} {args : Array Value} {below : List Frame} {meth : Method} {c : Code} {E : Ev} {r : Int32} {S1 : St} (X : GX p s m meth c args cX6_timings 6 (some .int) RX6 E) (N : Nat) : ∀ (n : Nat) (S : St) (x1 : Int32) (j2 : Nat) (x3 : Int32) (x4 : Int32) (x5 : Int32) (hj2 : j2 < 6), f_X6_timings_26 N n S x1 j2 x3 x4 x5 = some (r, S1) → ∀ (H : Heap) (locs : List Loc), HH E S s H locs → ∀ ls : Array Slot, lv_has ls 6 [(0, .ref (bb E 0)), (1, .int x1), (2, .ref (bb E (20 + j2))), (3, .int x3), (4, .int x4), (5, .int x5)] → W p l e (rmL 58) s m args below meth c H locs 0 0 (MQ below (QI E r S1 s.heap.size) args s 0 0 (AA E s.heap.size)) (F0 m 26 ls []) := by
  have hx := X.1
  have hb := X.2.1
  intro n
  induction n with
  | zero =>
    intro S x1 j2 x3 x4 x5 hj2 hf
    cases hf
  | succ n ih =>
    intro S x1 j2 x3 x4 x5 hj2 hf H locs hH ls hl
    rw [f_X6_timings_26] at hf
    refine lv_iload hx hb dX6_timings_26 (lv_at hl 5 rfl) ?_
    refine lv_iconst (v := (nI 3)) hx hb dX6_timings_28 (by decide) ?_
    refine lv_icmp_gt (tgt := 72) hx hb dX6_timings_29 (by decide) (fun c0 => ?_) (fun c0 => ?_)
    · replace hf := ite_t c0 hf
      refine lv_aload_n hx hb dX6_timings_72 rfl (lv_at hl 0 rfl) ?_
      refine fg_X6_12 X hH dX6_timings_73 ?_
      refine lv_iload_n hx hb dX6_timings_76 rfl (lv_at hl 1 rfl) ?_
      refine lv_aload_n hx hb dX6_timings_77 rfl (lv_at hl 2 rfl) ?_
      refine fg_X6_92 X hH hj2 dX6_timings_78 ?_
      refine lv_iload_n hx hb dX6_timings_81 rfl (lv_at hl 3 rfl) ?_
      obtain ⟨_, S1, h2, hf⟩ := cal_g hf
      refine go_v hH (run_V X hH (rest := []) (c_X0_change N S x1 (S (20 + j2) 0) x3 h2) gm_X6_113 (by decide) (e_1 E _) rfl rfl hl.1 (rmL_ok (by decide) (by decide)) (Nat.le_of_ble_eq_true rfl) rfl dX6_timings_82) (fun H locs hH => ?_)
      clear h2
      refine lv_iload hx hb dX6_timings_85 (lv_at hl 4 rfl) ?_
      exact r_iret X hH hf dX6_timings_87
    · replace hf := ite_f c0 hf
      refine lv_aload_n hx hb dX6_timings_32 rfl (lv_at hl 0 rfl) ?_
      refine fg_X6_12 X hH dX6_timings_33 ?_
      refine lv_iload_n hx hb dX6_timings_36 rfl (lv_at hl 1 rfl) ?_
      refine lv_aload_n hx hb dX6_timings_37 rfl (lv_at hl 2 rfl) ?_
      refine fg_X6_92 X hH hj2 dX6_timings_38 ?_
      refine lv_iload hx hb dX6_timings_41 (lv_at hl 5 rfl) ?_
      obtain ⟨_, S4, h5, hf⟩ := cal_g hf
      refine go_v hH (run_V X hH (rest := []) (c_X0_change N S x1 (S (20 + j2) 0) x5 h5) gm_X6_113 (by decide) (e_1 E _) rfl rfl hl.1 (rmL_ok (by decide) (by decide)) (Nat.le_of_ble_eq_true rfl) rfl dX6_timings_43) (fun H locs hH => ?_)
      clear h5
      refine lv_iload hx hb dX6_timings_46 (lv_at hl 4 rfl) ?_
      refine lv_aload_n hx hb dX6_timings_48 rfl (lv_at hl 0 rfl) ?_
      obtain ⟨r9, S7, h8, hf⟩ := cal_g hf
      refine go_i hH (run_V X hH (rest := [.int x4]) (c_X6_readingsAreSo N S4 h8) gm_X6_191 (by decide) (e_0 E _) rfl rfl hl.1 (rmL_ok (by decide) (by decide)) (Nat.le_of_ble_eq_true rfl) rfl dX6_timings_49) (fun H locs hH => ?_)
      clear h8
      refine lv_if_eq (tgt := 62) hx hb dX6_timings_52 (by decide) (fun c0 => ?_) (fun c0 => ?_)
      · replace hf := ite_t c0 hf
        refine lv_iconst (v := (nI 0)) hx hb dX6_timings_62 (by decide) ?_
        refine lv_ior hx hb dX6_timings_63 ?_
        refine lv_topi (fun y10 ex => ?_)
        replace hf := bnd_at ex hf
        clear ex
        refine lv_istore (lv' := [(4, .int y10), (0, .ref (bb E 0)), (1, .int x1), (2, .ref (bb E (20 + j2))), (3, .int x3), (5, .int x5)]) hx hb dX6_timings_64 hl (by decide) rfl (fun ls hl => ?_)
        obtain ⟨y11, ex, hf⟩ := bnd_go hf
        refine lv_iinc (v := y11) (lv' := [(5, .int y11), (4, .int y10), (0, .ref (bb E 0)), (1, .int x1), (2, .ref (bb E (20 + j2))), (3, .int x3)]) hx hb dX6_timings_66 hl (k := 5) rfl (by rw [ex]; rfl) (by decide) rfl (fun ls hl => ?_)
        clear ex
        refine lv_goto (tgt := 26) hx hb dX6_timings_69 (by decide) ?_
        exact ih S7 x1 j2 x3 y10 y11 hj2 hf _ _ hH _ (lv_sub hl [2, 3, 4, 5, 1, 0] rfl)
      · replace hf := ite_f c0 hf
        refine lv_iconst (v := (nI 1)) hx hb dX6_timings_55 (by decide) ?_
        refine lv_iload hx hb dX6_timings_56 (lv_at hl 5 rfl) ?_
        refine lv_ishl hx hb dX6_timings_58 ?_
        refine lv_goto (tgt := 63) hx hb dX6_timings_59 (by decide) ?_
        refine lv_ior hx hb dX6_timings_63 ?_
        refine lv_topi (fun y12 ex => ?_)
        replace hf := bnd_at ex hf
        clear ex
        refine lv_istore (lv' := [(4, .int y12), (0, .ref (bb E 0)), (1, .int x1), (2, .ref (bb E (20 + j2))), (3, .int x3), (5, .int x5)]) hx hb dX6_timings_64 hl (by decide) rfl (fun ls hl => ?_)
        obtain ⟨y13, ex, hf⟩ := bnd_go hf
        refine lv_iinc (v := y13) (lv' := [(5, .int y13), (4, .int y12), (0, .ref (bb E 0)), (1, .int x1), (2, .ref (bb E (20 + j2))), (3, .int x3)]) hx hb dX6_timings_66 hl (k := 5) rfl (by rw [ex]; rfl) (by decide) rfl (fun ls hl => ?_)
        clear ex
        refine lv_goto (tgt := 26) hx hb dX6_timings_69 (by decide) ?_
        exact ih S7 x1 j2 x3 y12 y13 hj2 hf _ _ hH _ (lv_sub hl [2, 3, 4, 5, 1, 0] rfl)
set_option maxRecDepth 100000 in
set_option maxHeartbeats 4000000 in
theorem w_X6_timings_0 {p : Program} {l : Launch} {e : Env} {s : State} {m : MethodId} {args : Array Value} {below : List Frame} {meth : Method} {c : Code} {E : Ev} {r : Int32} {S1 : St} (X : GX p s m meth c args cX6_timings 6 (some .int) RX6 E) (N : Nat) : ∀ (S : St) (x1 : Int32), f_X6_timings N S x1 = some (r, S1) → ∀ (H : Heap) (locs : List Loc), HH E S s H locs → ∀ ls : Array Slot, lv_has ls 6 [(0, .ref (bb E 0)), (1, .int x1)] → W p l e (rmL 58) s m args below meth c H locs 0 0 (MQ below (QI E r S1 s.heap.size) args s 0 0 (AA E s.heap.size)) (F0 m 0 ls []) := by
  have hx := X.1
  have hb := X.2.1
  intro S x1 hf H locs hH ls hl
  rw [f_X6_timings] at hf
  refine lv_aload_n hx hb dX6_timings_0 rfl (lv_at hl 0 rfl) ?_
  refine fg_X6_12 X hH dX6_timings_1 ?_
  refine lv_iload_n hx hb dX6_timings_4 rfl (lv_at hl 1 rfl) ?_
  obtain ⟨r3, S1, h2, hf⟩ := cal_g hf
  refine go_q hH (run_V X hH (rest := []) (c_X0_macroOf N S x1 h2) gm_X6_88 (by decide) (e_1 E _) rfl rfl hl.1 (rmL_ok (by decide) (by decide)) (Nat.le_of_ble_eq_true rfl) rfl dX6_timings_5) (fun H locs hH => ?_)
  clear h2
  cases r3 with
  | none =>
    replace hf := opt_n hf
    refine lv_astore_nN (lv' := [(2, .null), (0, .ref (bb E 0)), (1, .int x1)]) hx hb dX6_timings_8 rfl hl (by decide) rfl (fun ls hl => ?_)
    refine lv_aload_nN hx hb dX6_timings_9 rfl (lv_at hl 0 rfl) ?_
    refine lv_ifnonnullN hx hb dX6_timings_10 ?_
    refine lv_iconst (v := (-1 : Int32)) hx hb dX6_timings_13 (by decide) ?_
    exact r_iret X hH hf dX6_timings_14
  | some j4 =>
    replace hf := opt_s hf
    obtain ⟨hj4, hf⟩ := ite_g hf
    refine lv_astore_n (lv' := [(2, .ref (bb E (20 + j4))), (0, .ref (bb E 0)), (1, .int x1)]) hx hb dX6_timings_8 rfl hl (by decide) rfl (fun ls hl => ?_)
    refine lv_aload_n hx hb dX6_timings_9 rfl (lv_at hl 0 rfl) ?_
    refine lv_ifnonnull (tgt := 15) hx hb dX6_timings_10 (by decide) ?_
    refine lv_aload_n hx hb dX6_timings_15 rfl (lv_at hl 0 rfl) ?_
    refine fg_X6_97 X hH hj4 dX6_timings_16 ?_
    refine lv_topi (fun y5 ex => ?_)
    replace hf := bnd_at ex hf
    clear ex
    refine lv_istore_n (lv' := [(3, .int y5), (2, .ref (bb E (20 + j4))), (0, .ref (bb E 0)), (1, .int x1)]) hx hb dX6_timings_19 rfl hl (by decide) rfl (fun ls hl => ?_)
    refine lv_iconst (v := (nI 0)) hx hb dX6_timings_20 (by decide) ?_
    refine lv_topi (fun y6 ex => ?_)
    replace hf := bnd_at ex hf
    clear ex
    refine lv_istore (lv' := [(4, .int y6), (3, .int y5), (2, .ref (bb E (20 + j4))), (0, .ref (bb E 0)), (1, .int x1)]) hx hb dX6_timings_21 hl (by decide) rfl (fun ls hl => ?_)
    refine lv_iconst (v := (nI 1)) hx hb dX6_timings_23 (by decide) ?_
    refine lv_topi (fun y7 ex => ?_)
    replace hf := bnd_at ex hf
    clear ex
    refine lv_istore (lv' := [(5, .int y7), (4, .int y6), (3, .int y5), (2, .ref (bb E (20 + j4))), (0, .ref (bb E 0)), (1, .int x1)]) hx hb dX6_timings_24 hl (by decide) rfl (fun ls hl => ?_)
    exact w_X6_timings_26 X N N S1 x1 j4 y5 y6 y7 hj4 hf _ _ hH _ (lv_sub hl [4, 5, 3, 2, 1, 0] rfl)
theorem c_X6_timings {l : Launch} {E : Ev} (N : Nat) (S : St) (x1 : Int32) {r : Int32} {S1 : St} (hf : f_X6_timings N S x1 = some (r, S1)) : Ct l yX6_timings (.code yX6_timings cX6_timings 6 (some .int)) 58 E [.ref (bb E 0), .int x1] S (QI E r S1) := by
  refine Ct.of (by decide) (Nat.le_of_ble_eq_true rfl) (fun p e s m below meth c ls X hH hl => ?_)
  exact w_X6_timings_0 X N S x1 hf _ _ hH _ hl
set_option maxRecDepth 100000 in
set_option maxHeartbeats 4000000 in
theorem w_X6_trace_0 {p : Program} {l : Launch} {e : Env} {s : State} {m : MethodId} {args : Array Value} {below : List Frame} {meth : Method} {c : Code} {E : Ev} {r : Int32} {S1 : St} (X : GX p s m meth c args cX6_trace 1 (some .int) RX6 E) (N : Nat) : ∀ (S : St), f_X6_trace N S = some (r, S1) → ∀ (H : Heap) (locs : List Loc), HH E S s H locs → ∀ ls : Array Slot, lv_has ls 1 [(0, .ref (bb E 0))] → W p l e (rmL 1) s m args below meth c H locs 0 0 (MQ below (QI E r S1 s.heap.size) args s 0 0 (AA E s.heap.size)) (F0 m 0 ls []) := by
  have hx := X.1
  have hb := X.2.1
  intro S hf H locs hH ls hl
  rw [f_X6_trace] at hf
  refine lv_aload_n hx hb dX6_trace_0 rfl (lv_at hl 0 rfl) ?_
  refine fg_X6_234 X hH dX6_trace_1 ?_
  exact r_iret X hH hf dX6_trace_4
theorem c_X6_trace {l : Launch} {E : Ev} (N : Nat) (S : St) {r : Int32} {S1 : St} (hf : f_X6_trace N S = some (r, S1)) : Ct l yX6_trace (.code yX6_trace cX6_trace 1 (some .int)) 1 E [.ref (bb E 0)] S (QI E r S1) := by
  refine Ct.of (by decide) (Nat.le_of_ble_eq_true rfl) (fun p e s m below meth c ls X hH hl => ?_)
  exact w_X6_trace_0 X N S hf _ _ hH _ hl
