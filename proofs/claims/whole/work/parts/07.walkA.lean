set_option maxRecDepth 100000 in
set_option maxHeartbeats 4000000 in
theorem w_J7_fill_53178_5 {p : Program} {l : Launch} {e : Env} {s : State} {m : MethodId} {args : Array Value} {below : List Frame} {meth : Method} {c : Code} {E : Ev} {r : Unit} {S1 : St} (X : GX p s m meth c args cJ7_fill_53178 4 none RJ7 E) (N : Nat) : ∀ (n : Nat) (S : St) (q0 n0 : Nat) (x1 : Int32) (x2 : Int32) (x3 : Int32) (ha0 : isA E q0 n0), f_J7_fill_53178_5 N n S q0 n0 x1 x2 x3 = some (r, S1) → ∀ (H : Heap) (locs : List Loc), HH E S s H locs → ∀ ls : Array Slot, lv_has ls 4 [(0, .ref (bb E q0)), (1, .int x1), (2, .int x2), (3, .int x3)] → W p l e (rmL 1) s m args below meth c H locs 0 0 (MQ below (QV E r S1 s.heap.size) args s 0 0 (AA E s.heap.size)) (F0 m 5 ls []) := by
  have hx := X.1
  have hb := X.2.1
  intro n
  induction n with
  | zero =>
    intro S q0 n0 x1 x2 x3 ha0 hf
    cases hf
  | succ n ih =>
    intro S q0 n0 x1 x2 x3 ha0 hf H locs hH ls hl
    rw [f_J7_fill_53178_5] at hf
    refine lv_iload_n hx hb dJ7_fill_53178_5 rfl (lv_at hl 2 rfl) ?_
    refine lv_iload_n hx hb dJ7_fill_53178_6 rfl (lv_at hl 3 rfl) ?_
    refine lv_icmp_ge (tgt := 20) hx hb dJ7_fill_53178_7 (by decide) (fun c0 => ?_) (fun c0 => ?_)
    · replace hf := ite_t c0 hf
      exact r_vret X hH hf dJ7_fill_53178_20
    · replace hf := ite_f c0 hf
      refine lv_aload_n hx hb dJ7_fill_53178_10 rfl (lv_at hl 0 rfl) ?_
      refine lv_iload_n hx hb dJ7_fill_53178_11 rfl (lv_at hl 2 rfl) ?_
      refine lv_iload_n hx hb dJ7_fill_53178_12 rfl (lv_at hl 1 rfl) ?_
      obtain ⟨g, hf⟩ := ite_g hf
      refine r_iast X hH ha0 g dJ7_fill_53178_13 (fun H locs hH => ?_)
      obtain ⟨S1, ex, hf⟩ := bnd_go hf
      replace hH := HH_eq ex hH
      clear ex
      obtain ⟨y2, ex, hf⟩ := bnd_go hf
      refine lv_iinc (v := y2) (lv' := [(2, .int y2), (0, .ref (bb E q0)), (1, .int x1), (3, .int x3)]) hx hb dJ7_fill_53178_14 hl (k := 2) rfl (by rw [ex]; rfl) (by decide) rfl (fun ls hl => ?_)
      clear ex
      refine lv_goto (tgt := 5) hx hb dJ7_fill_53178_17 (by decide) ?_
      exact ih S1 q0 n0 x1 y2 x3 ha0 hf _ _ hH _ (lv_sub hl [1, 2, 0, 3] rfl)
set_option maxRecDepth 100000 in
set_option maxHeartbeats 4000000 in
theorem w_J7_fill_53178_0 {p : Program} {l : Launch} {e : Env} {s : State} {m : MethodId} {args : Array Value} {below : List Frame} {meth : Method} {c : Code} {E : Ev} {r : Unit} {S1 : St} (X : GX p s m meth c args cJ7_fill_53178 4 none RJ7 E) (N : Nat) : ∀ (S : St) (q0 n0 : Nat) (x1 : Int32) (ha0 : isA E q0 n0), f_J7_fill_53178 N S q0 n0 x1 = some (r, S1) → ∀ (H : Heap) (locs : List Loc), HH E S s H locs → ∀ ls : Array Slot, lv_has ls 4 [(0, .ref (bb E q0)), (1, .int x1)] → W p l e (rmL 1) s m args below meth c H locs 0 0 (MQ below (QV E r S1 s.heap.size) args s 0 0 (AA E s.heap.size)) (F0 m 0 ls []) := by
  have hx := X.1
  have hb := X.2.1
  intro S q0 n0 x1 ha0 hf H locs hH ls hl
  rw [f_J7_fill_53178] at hf
  refine lv_iconst (v := (nI 0)) hx hb dJ7_fill_53178_0 (by decide) ?_
  refine lv_topi (fun y1 ex => ?_)
  replace hf := bnd_at ex hf
  clear ex
  refine lv_istore_n (lv' := [(2, .int y1), (0, .ref (bb E q0)), (1, .int x1)]) hx hb dJ7_fill_53178_1 rfl hl (by decide) rfl (fun ls hl => ?_)
  refine lv_aload_n hx hb dJ7_fill_53178_2 rfl (lv_at hl 1 rfl) ?_
  refine r_alen X hH ha0 rfl dJ7_fill_53178_3 ?_
  refine lv_topi (fun y2 ex => ?_)
  replace hf := bnd_at ex hf
  clear ex
  refine lv_istore_n (lv' := [(3, .int y2), (2, .int y1), (0, .ref (bb E q0)), (1, .int x1)]) hx hb dJ7_fill_53178_4 rfl hl (by decide) rfl (fun ls hl => ?_)
  exact w_J7_fill_53178_5 X N N S q0 n0 x1 y1 y2 ha0 hf _ _ hH _ (lv_sub hl [2, 3, 1, 0] rfl)
theorem c_J7_fill_53178 {l : Launch} {E : Ev} (N : Nat) (S : St) (q0 n0 : Nat) (x1 : Int32) (ha0 : isA E q0 n0) {r : Unit} {S1 : St} (hf : f_J7_fill_53178 N S q0 n0 x1 = some (r, S1)) : Ct l yJ7_fill_53178 (.code yJ7_fill_53178 cJ7_fill_53178 4 none) 1 E [.ref (bb E q0), .int x1] S (QV E r S1) := by
  refine Ct.of (by decide) (Nat.le_of_ble_eq_true rfl) (fun p e s m below meth c ls X hH hl => ?_)
  exact w_J7_fill_53178_0 X N S q0 n0 x1 ha0 hf _ _ hH _ hl
set_option maxRecDepth 100000 in
set_option maxHeartbeats 4000000 in
theorem w_J7_rangeCheck_23922_0 {p : Program} {l : Launch} {e : Env} {s : State} {m : MethodId} {args : Array Value} {below : List Frame} {meth : Method} {c : Code} {E : Ev} {r : Unit} {S1 : St} (X : GX p s m meth c args cJ7_rangeCheck_23922 3 none RJ7 E) (N : Nat) : ∀ (S : St) (x0 : Int32) (x1 : Int32) (x2 : Int32), f_J7_rangeCheck_23922 N S x0 x1 x2 = some (r, S1) → ∀ (H : Heap) (locs : List Loc), HH E S s H locs → ∀ ls : Array Slot, lv_has ls 3 [(0, .int x0), (1, .int x1), (2, .int x2)] → W p l e (rmL 1) s m args below meth c H locs 0 0 (MQ below (QV E r S1 s.heap.size) args s 0 0 (AA E s.heap.size)) (F0 m 0 ls []) := by
  have hx := X.1
  have hb := X.2.1
  intro S x0 x1 x2 hf H locs hH ls hl
  rw [f_J7_rangeCheck_23922] at hf
  refine lv_iload_n hx hb dJ7_rangeCheck_23922_0 rfl (lv_at hl 1 rfl) ?_
  refine lv_iload_n hx hb dJ7_rangeCheck_23922_1 rfl (lv_at hl 2 rfl) ?_
  refine lv_icmp_le (tgt := 46) hx hb dJ7_rangeCheck_23922_2 (by decide) (fun c0 => ?_) (fun c0 => ?_)
  · replace hf := ite_t c0 hf
    refine lv_iload_n hx hb dJ7_rangeCheck_23922_46 rfl (lv_at hl 1 rfl) ?_
    refine lv_if_ge (tgt := 59) hx hb dJ7_rangeCheck_23922_47 (by decide) (fun c0 => ?_) (fun c0 => ?_)
    · replace hf := ite_t c0 hf
      refine lv_iload_n hx hb dJ7_rangeCheck_23922_59 rfl (lv_at hl 2 rfl) ?_
      refine lv_iload_n hx hb dJ7_rangeCheck_23922_60 rfl (lv_at hl 0 rfl) ?_
      refine lv_icmp_le (tgt := 73) hx hb dJ7_rangeCheck_23922_61 (by decide) (fun c0 => ?_) (fun c0 => ?_)
      · replace hf := ite_t c0 hf
        exact r_vret X hH hf dJ7_rangeCheck_23922_73
      · replace hf := ite_f c0 hf
        cases hf
    · replace hf := ite_f c0 hf
      cases hf
  · replace hf := ite_f c0 hf
    cases hf
theorem c_J7_rangeCheck_23922 {l : Launch} {E : Ev} (N : Nat) (S : St) (x0 : Int32) (x1 : Int32) (x2 : Int32) {r : Unit} {S1 : St} (hf : f_J7_rangeCheck_23922 N S x0 x1 x2 = some (r, S1)) : Ct l yJ7_rangeCheck_23922 (.code yJ7_rangeCheck_23922 cJ7_rangeCheck_23922 3 none) 1 E [.int x0, .int x1, .int x2] S (QV E r S1) := by
  refine Ct.of (by decide) (Nat.le_of_ble_eq_true rfl) (fun p e s m below meth c ls X hH hl => ?_)
  exact w_J7_rangeCheck_23922_0 X N S x0 x1 x2 hf _ _ hH _ hl
set_option maxRecDepth 100000 in
set_option maxHeartbeats 4000000 in
theorem w_J7_fill_fda19_10 {p : Program} {l : Launch} {e : Env} {s : State} {m : MethodId} {args : Array Value} {below : List Frame} {meth : Method} {c : Code} {E : Ev} {r : Unit} {S1 : St} (X : GX p s m meth c args cJ7_fill_fda19 5 none RJ7 E) (N : Nat) : ∀ (n : Nat) (S : St) (q0 n0 : Nat) (x2 : Int32) (x3 : Int32) (x4 : Int32) (ha0 : isA E q0 n0), f_J7_fill_fda19_10 N n S q0 n0 x2 x3 x4 = some (r, S1) → ∀ (H : Heap) (locs : List Loc), HH E S s H locs → ∀ ls : Array Slot, lv_has ls 5 [(0, .ref (bb E q0)), (2, .int x2), (3, .int x3), (4, .int x4)] → W p l e (rmL 2) s m args below meth c H locs 0 0 (MQ below (QV E r S1 s.heap.size) args s 0 0 (AA E s.heap.size)) (F0 m 10 ls []) := by
  have hx := X.1
  have hb := X.2.1
  intro n
  induction n with
  | zero =>
    intro S q0 n0 x2 x3 x4 ha0 hf
    cases hf
  | succ n ih =>
    intro S q0 n0 x2 x3 x4 ha0 hf H locs hH ls hl
    rw [f_J7_fill_fda19_10] at hf
    refine lv_iload hx hb dJ7_fill_fda19_10 (lv_at hl 3 rfl) ?_
    refine lv_iload_n hx hb dJ7_fill_fda19_12 rfl (lv_at hl 1 rfl) ?_
    refine lv_icmp_ge (tgt := 27) hx hb dJ7_fill_fda19_13 (by decide) (fun c0 => ?_) (fun c0 => ?_)
    · replace hf := ite_t c0 hf
      exact r_vret X hH hf dJ7_fill_fda19_27
    · replace hf := ite_f c0 hf
      refine lv_aload_n hx hb dJ7_fill_fda19_16 rfl (lv_at hl 0 rfl) ?_
      refine lv_iload hx hb dJ7_fill_fda19_17 (lv_at hl 3 rfl) ?_
      refine lv_iload_n hx hb dJ7_fill_fda19_19 rfl (lv_at hl 2 rfl) ?_
      obtain ⟨g, hf⟩ := ite_g hf
      refine r_iast X hH ha0 g dJ7_fill_fda19_20 (fun H locs hH => ?_)
      obtain ⟨S1, ex, hf⟩ := bnd_go hf
      replace hH := HH_eq ex hH
      clear ex
      obtain ⟨y2, ex, hf⟩ := bnd_go hf
      refine lv_iinc (v := y2) (lv' := [(4, .int y2), (0, .ref (bb E q0)), (2, .int x2), (3, .int x3)]) hx hb dJ7_fill_fda19_21 hl (k := 3) rfl (by rw [ex]; rfl) (by decide) rfl (fun ls hl => ?_)
      clear ex
      refine lv_goto (tgt := 10) hx hb dJ7_fill_fda19_24 (by decide) ?_
      exact ih S1 q0 n0 x2 x3 y2 ha0 hf _ _ hH _ (lv_sub hl [1, 2, 3, 0] rfl)
set_option maxRecDepth 100000 in
set_option maxHeartbeats 4000000 in
theorem w_J7_fill_fda19_0 {p : Program} {l : Launch} {e : Env} {s : State} {m : MethodId} {args : Array Value} {below : List Frame} {meth : Method} {c : Code} {E : Ev} {r : Unit} {S1 : St} (X : GX p s m meth c args cJ7_fill_fda19 5 none RJ7 E) (N : Nat) : ∀ (S : St) (q0 n0 : Nat) (x1 : Int32) (x2 : Int32) (x3 : Int32) (ha0 : isA E q0 n0), f_J7_fill_fda19 N S q0 n0 x1 x2 x3 = some (r, S1) → ∀ (H : Heap) (locs : List Loc), HH E S s H locs → ∀ ls : Array Slot, lv_has ls 5 [(0, .ref (bb E q0)), (1, .int x1), (2, .int x2), (3, .int x3)] → W p l e (rmL 2) s m args below meth c H locs 0 0 (MQ below (QV E r S1 s.heap.size) args s 0 0 (AA E s.heap.size)) (F0 m 0 ls []) := by
  have hx := X.1
  have hb := X.2.1
  intro S q0 n0 x1 x2 x3 ha0 hf H locs hH ls hl
  rw [f_J7_fill_fda19] at hf
  refine lv_aload_n hx hb dJ7_fill_fda19_0 rfl (lv_at hl 0 rfl) ?_
  refine r_alen X hH ha0 rfl dJ7_fill_fda19_1 ?_
  refine lv_iload_n hx hb dJ7_fill_fda19_2 rfl (lv_at hl 1 rfl) ?_
  refine lv_iload_n hx hb dJ7_fill_fda19_3 rfl (lv_at hl 2 rfl) ?_
  obtain ⟨_, S1, h2, hf⟩ := cal_g hf
  refine go_v hH (run_S X hH (rest := []) (c_J7_rangeCheck_23922 N S (Int32.ofNat n0) x1 x2 h2) gm_J7_13 rfl hl.1 (rmL_ok (by decide) (by decide)) (Nat.le_of_ble_eq_true rfl) rfl dJ7_fill_fda19_4) (fun H locs hH => ?_)
  clear h2
  refine lv_iload_n hx hb dJ7_fill_fda19_7 rfl (lv_at hl 1 rfl) ?_
  refine lv_istore (lv' := [(4, .int x1), (0, .ref (bb E q0)), (1, .int x1), (2, .int x2), (3, .int x3)]) hx hb dJ7_fill_fda19_8 hl (by decide) rfl (fun ls hl => ?_)
  exact w_J7_fill_fda19_10 X N N S1 q0 n0 x2 x3 x1 ha0 hf _ _ hH _ (lv_sub hl [1, 3, 4, 0] rfl)
theorem c_J7_fill_fda19 {l : Launch} {E : Ev} (N : Nat) (S : St) (q0 n0 : Nat) (x1 : Int32) (x2 : Int32) (x3 : Int32) (ha0 : isA E q0 n0) {r : Unit} {S1 : St} (hf : f_J7_fill_fda19 N S q0 n0 x1 x2 x3 = some (r, S1)) : Ct l yJ7_fill_fda19 (.code yJ7_fill_fda19 cJ7_fill_fda19 5 none) 2 E [.ref (bb E q0), .int x1, .int x2, .int x3] S (QV E r S1) := by
  refine Ct.of (by decide) (Nat.le_of_ble_eq_true rfl) (fun p e s m below meth c ls X hH hl => ?_)
  exact w_J7_fill_fda19_0 X N S q0 n0 x1 x2 x3 ha0 hf _ _ hH _ hl
set_option maxRecDepth 100000 in
set_option maxHeartbeats 4000000 in
theorem w_X2_become_0 {p : Program} {l : Launch} {e : Env} {s : State} {m : MethodId} {args : Array Value} {below : List Frame} {meth : Method} {c : Code} {E : Ev} {r : Unit} {S1 : St} (X : GX p s m meth c args cX2_become 2 none RX2 E) (N : Nat) : ∀ (S : St) (j0 : Nat) (j1 : Nat) (hj0 : j0 < 6) (hj1 : j1 < 6), f_X2_become N S j0 j1 = some (r, S1) → ∀ (H : Heap) (locs : List Loc), HH E S s H locs → ∀ ls : Array Slot, lv_has ls 2 [(0, .ref (bb E (20 + j0))), (1, .ref (bb E (20 + j1)))] → W p l e (rmL 1) s m args below meth c H locs 0 0 (MQ below (QV E r S1 s.heap.size) args s 0 0 (AA E s.heap.size)) (F0 m 0 ls []) := by
  have hx := X.1
  have hb := X.2.1
  intro S j0 j1 hj0 hj1 hf H locs hH ls hl
  rw [f_X2_become] at hf
  refine lv_aload_n hx hb dX2_become_0 rfl (lv_at hl 0 rfl) ?_
  refine lv_aload_n hx hb dX2_become_1 rfl (lv_at hl 1 rfl) ?_
  refine fg_X2_15 X hH hj1 dX2_become_2 ?_
  refine fp_X2_15 X hH hj0 dX2_become_5 (fun H locs hH => ?_)
  obtain ⟨S1, ex, hf⟩ := bnd_go hf
  replace hH := HH_eq ex hH
  clear ex
  refine lv_aload_n hx hb dX2_become_8 rfl (lv_at hl 0 rfl) ?_
  refine lv_aload_n hx hb dX2_become_9 rfl (lv_at hl 1 rfl) ?_
  refine fg_X2_19 X hH hj1 dX2_become_10 ?_
  refine fp_X2_19 X hH hj0 dX2_become_13 (fun H locs hH => ?_)
  obtain ⟨S2, ex, hf⟩ := bnd_go hf
  replace hH := HH_eq ex hH
  clear ex
  refine lv_aload_n hx hb dX2_become_16 rfl (lv_at hl 0 rfl) ?_
  refine lv_aload_n hx hb dX2_become_17 rfl (lv_at hl 1 rfl) ?_
  refine fg_X2_22 X hH hj1 dX2_become_18 ?_
  refine fp_X2_22 X hH hj0 dX2_become_21 (fun H locs hH => ?_)
  obtain ⟨S3, ex, hf⟩ := bnd_go hf
  replace hH := HH_eq ex hH
  clear ex
  refine lv_aload_n hx hb dX2_become_24 rfl (lv_at hl 1 rfl) ?_
  refine fg_X2_9 X hH hj1 dX2_become_25 ?_
  refine lv_iconst (v := (nI 0)) hx hb dX2_become_28 (by decide) ?_
  refine lv_aload_n hx hb dX2_become_29 rfl (lv_at hl 0 rfl) ?_
  refine fg_X2_9 X hH hj0 dX2_become_30 ?_
  refine lv_iconst (v := (nI 0)) hx hb dX2_become_33 (by decide) ?_
  refine lv_iconst (v := (nI 4)) hx hb dX2_become_34 (by decide) ?_
  obtain ⟨g, hf⟩ := ite_g hf
  refine r_copy X hH (a_mk E hj1) (a_mk E hj0) g ac_X2_25 hl.1 (by decide) (Nat.le_of_ble_eq_true rfl) dX2_become_35 (fun H locs hH => ?_)
  obtain ⟨S4, ex, hf⟩ := bnd_go hf
  replace hH := HH_eq ex hH
  clear ex
  exact r_vret X hH hf dX2_become_38
theorem c_X2_become {l : Launch} {E : Ev} (N : Nat) (S : St) (j0 : Nat) (j1 : Nat) (hj0 : j0 < 6) (hj1 : j1 < 6) {r : Unit} {S1 : St} (hf : f_X2_become N S j0 j1 = some (r, S1)) : Ct l yX2_become (.code yX2_become cX2_become 2 none) 1 E [.ref (bb E (20 + j0)), .ref (bb E (20 + j1))] S (QV E r S1) := by
  refine Ct.of (by decide) (Nat.le_of_ble_eq_true rfl) (fun p e s m below meth c ls X hH hl => ?_)
  exact w_X2_become_0 X N S j0 j1 hj0 hj1 hf _ _ hH _ hl
set_option maxRecDepth 100000 in
set_option maxHeartbeats 4000000 in
theorem w_X2_keyAt_0 {p : Program} {l : Launch} {e : Env} {s : State} {m : MethodId} {args : Array Value} {below : List Frame} {meth : Method} {c : Code} {E : Ev} {r : Int32} {S1 : St} (X : GX p s m meth c args cX2_keyAt 2 (some .int) RX2 E) (N : Nat) : ∀ (S : St) (j0 : Nat) (x1 : Int32) (hj0 : j0 < 6), f_X2_keyAt N S j0 x1 = some (r, S1) → ∀ (H : Heap) (locs : List Loc), HH E S s H locs → ∀ ls : Array Slot, lv_has ls 2 [(0, .ref (bb E (20 + j0))), (1, .int x1)] → W p l e (rmL 1) s m args below meth c H locs 0 0 (MQ below (QI E r S1 s.heap.size) args s 0 0 (AA E s.heap.size)) (F0 m 0 ls []) := by
  have hx := X.1
  have hb := X.2.1
  intro S j0 x1 hj0 hf H locs hH ls hl
  rw [f_X2_keyAt] at hf
  refine lv_iload_n hx hb dX2_keyAt_0 rfl (lv_at hl 1 rfl) ?_
  refine lv_if_lt (tgt := 17) hx hb dX2_keyAt_1 (by decide) (fun c0 => ?_) (fun c0 => ?_)
  · replace hf := ite_t c0 hf
    refine lv_bipush (v := (-9 : Int32)) hx hb dX2_keyAt_17 (by decide) ?_
    refine lv_goto (tgt := 28) hx hb dX2_keyAt_19 (by decide) ?_
    exact r_iret X hH hf dX2_keyAt_28
  · replace hf := ite_f c0 hf
    refine lv_iload_n hx hb dX2_keyAt_4 rfl (lv_at hl 1 rfl) ?_
    refine lv_aload_n hx hb dX2_keyAt_5 rfl (lv_at hl 0 rfl) ?_
    refine fg_X2_22 X hH hj0 dX2_keyAt_6 ?_
    refine lv_icmp_ge (tgt := 17) hx hb dX2_keyAt_9 (by decide) (fun c0 => ?_) (fun c0 => ?_)
    · replace hf := ite_t c0 hf
      refine lv_bipush (v := (-9 : Int32)) hx hb dX2_keyAt_17 (by decide) ?_
      refine lv_goto (tgt := 28) hx hb dX2_keyAt_19 (by decide) ?_
      exact r_iret X hH hf dX2_keyAt_28
    · replace hf := ite_f c0 hf
      refine lv_iload_n hx hb dX2_keyAt_12 rfl (lv_at hl 1 rfl) ?_
      refine lv_iconst (v := (nI 4)) hx hb dX2_keyAt_13 (by decide) ?_
      refine lv_icmp_lt (tgt := 22) hx hb dX2_keyAt_14 (by decide) (fun c0 => ?_) (fun c0 => ?_)
      · replace hf := ite_t c0 hf
        refine lv_aload_n hx hb dX2_keyAt_22 rfl (lv_at hl 0 rfl) ?_
        refine fg_X2_9 X hH hj0 dX2_keyAt_23 ?_
        refine lv_iload_n hx hb dX2_keyAt_26 rfl (lv_at hl 1 rfl) ?_
        obtain ⟨g, hf⟩ := ite_g hf
        refine r_iald X hH (a_mk E hj0) g dX2_keyAt_27 ?_
        exact r_iret X hH hf dX2_keyAt_28
      · replace hf := ite_f c0 hf
        refine lv_bipush (v := (-9 : Int32)) hx hb dX2_keyAt_17 (by decide) ?_
        refine lv_goto (tgt := 28) hx hb dX2_keyAt_19 (by decide) ?_
        exact r_iret X hH hf dX2_keyAt_28
theorem c_X2_keyAt {l : Launch} {E : Ev} (N : Nat) (S : St) (j0 : Nat) (x1 : Int32) (hj0 : j0 < 6) {r : Int32} {S1 : St} (hf : f_X2_keyAt N S j0 x1 = some (r, S1)) : Ct l yX2_keyAt (.code yX2_keyAt cX2_keyAt 2 (some .int)) 1 E [.ref (bb E (20 + j0)), .int x1] S (QI E r S1) := by
  refine Ct.of (by decide) (Nat.le_of_ble_eq_true rfl) (fun p e s m below meth c ls X hH hl => ?_)
  exact w_X2_keyAt_0 X N S j0 x1 hj0 hf _ _ hH _ hl
set_option maxRecDepth 100000 in
set_option maxHeartbeats 4000000 in
theorem w_X2_often_0 {p : Program} {l : Launch} {e : Env} {s : State} {m : MethodId} {args : Array Value} {below : List Frame} {meth : Method} {c : Code} {E : Ev} {r : Int32} {S1 : St} (X : GX p s m meth c args cX2_often 1 (some .int) RX2 E) (N : Nat) : ∀ (S : St) (j0 : Nat) (hj0 : j0 < 6), f_X2_often N S j0 = some (r, S1) → ∀ (H : Heap) (locs : List Loc), HH E S s H locs → ∀ ls : Array Slot, lv_has ls 1 [(0, .ref (bb E (20 + j0)))] → W p l e (rmL 1) s m args below meth c H locs 0 0 (MQ below (QI E r S1 s.heap.size) args s 0 0 (AA E s.heap.size)) (F0 m 0 ls []) := by
  have hx := X.1
  have hb := X.2.1
  intro S j0 hj0 hf H locs hH ls hl
  rw [f_X2_often] at hf
  refine lv_aload_n hx hb dX2_often_0 rfl (lv_at hl 0 rfl) ?_
  refine fg_X2_15 X hH hj0 dX2_often_1 ?_
  refine lv_topi (fun y1 ex => ?_)
  replace hf := bnd_at ex hf
  clear ex
  by_cases c0 : y1 = (nI 1)
  · replace hf := ite_t c0 hf
    subst c0
    refine lv_lookup (tgt := 39) hx hb dX2_often_4 (by decide) rfl (by decide) ?_
    refine lv_aload_n hx hb dX2_often_39 rfl (lv_at hl 0 rfl) ?_
    refine fg_X2_19 X hH hj0 dX2_often_40 ?_
    refine lv_iconst (v := (nI 1)) hx hb dX2_often_43 (by decide) ?_
    refine lv_iadd hx hb dX2_often_44 ?_
    exact r_iret X hH hf dX2_often_45
  · replace hf := ite_f c0 hf
    by_cases c1 : y1 = (nI 2)
    · replace hf := ite_t c1 hf
      subst c1
      refine lv_lookup (tgt := 32) hx hb dX2_often_4 (by decide) rfl (by decide) ?_
      refine lv_iconst (v := (nI 2)) hx hb dX2_often_32 (by decide) ?_
      refine lv_aload_n hx hb dX2_often_33 rfl (lv_at hl 0 rfl) ?_
      refine fg_X2_19 X hH hj0 dX2_often_34 ?_
      refine lv_imul hx hb dX2_often_37 ?_
      exact r_iret X hH hf dX2_often_38
    · replace hf := ite_f c1 hf
      refine lv_lookup (off := 42) (tgt := 46) hx hb dX2_often_4 (by decide) ((lv_osw (a := 1) (o := 35) (d := 42) (r := [(2, 28)]) c0 rfl).trans ((lv_osw (a := 2) (o := 28) (d := 42) (r := []) c1 rfl).trans rfl)) (by decide) ?_
      refine lv_aload_n hx hb dX2_often_46 rfl (lv_at hl 0 rfl) ?_
      refine fg_X2_19 X hH hj0 dX2_often_47 ?_
      exact r_iret X hH hf dX2_often_50
theorem c_X2_often {l : Launch} {E : Ev} (N : Nat) (S : St) (j0 : Nat) (hj0 : j0 < 6) {r : Int32} {S1 : St} (hf : f_X2_often N S j0 = some (r, S1)) : Ct l yX2_often (.code yX2_often cX2_often 1 (some .int)) 1 E [.ref (bb E (20 + j0))] S (QI E r S1) := by
  refine Ct.of (by decide) (Nat.le_of_ble_eq_true rfl) (fun p e s m below meth c ls X hH hl => ?_)
  exact w_X2_often_0 X N S j0 hj0 hf _ _ hH _ hl
set_option maxRecDepth 100000 in
set_option maxHeartbeats 4000000 in
theorem w_X1_countOf_2 {p : Program} {l : Launch} {e : Env} {s : State} {m : MethodId} {args : Array Value} {below : List Frame} {meth : Method} {c : Code} {E : Ev} {r : Int32} {S1 : St} (X : GX p s m meth c args cX1_countOf 2 (some .int) RX1 E) (N : Nat) : ∀ (n : Nat) (S : St) (x0 : Int32) (x1 : Int32), f_X1_countOf_2 N n S x0 x1 = some (r, S1) → ∀ (H : Heap) (locs : List Loc), HH E S s H locs → ∀ ls : Array Slot, lv_has ls 2 [(0, .int x0), (1, .int x1)] → W p l e (rmL 1) s m args below meth c H locs 0 0 (MQ below (QI E r S1 s.heap.size) args s 0 0 (AA E s.heap.size)) (F0 m 2 ls []) := by
  have hx := X.1
  have hb := X.2.1
  intro n
  induction n with
  | zero =>
    intro S x0 x1 hf
    cases hf
  | succ n ih =>
    intro S x0 x1 hf H locs hH ls hl
    rw [f_X1_countOf_2] at hf
    refine lv_iload_n hx hb dX1_countOf_2 rfl (lv_at hl 1 rfl) ?_
    refine lv_if_le (tgt := 21) hx hb dX1_countOf_3 (by decide) (fun c0 => ?_) (fun c0 => ?_)
    · replace hf := ite_t c0 hf
      refine lv_iload_n hx hb dX1_countOf_21 rfl (lv_at hl 1 rfl) ?_
      exact r_iret X hH hf dX1_countOf_22
    · replace hf := ite_f c0 hf
      refine lv_iload_n hx hb dX1_countOf_6 rfl (lv_at hl 0 rfl) ?_
      refine r_first X hH q_13_11 dX1_countOf_7 (fun t1 hTt1 => ?_)
      refine lv_iload_n hx hb dX1_countOf_10 rfl (lv_at hl 1 rfl) ?_
      obtain ⟨g, hf⟩ := ite_g hf
      refine r_tld X hH hTt1 g dX1_countOf_11 ?_
      refine lv_icmp_ge (tgt := 21) hx hb dX1_countOf_12 (by decide) (fun c0 => ?_) (fun c0 => ?_)
      · replace hf := ite_t c0 hf
        refine lv_iload_n hx hb dX1_countOf_21 rfl (lv_at hl 1 rfl) ?_
        exact r_iret X hH hf dX1_countOf_22
      · replace hf := ite_f c0 hf
        obtain ⟨y2, ex, hf⟩ := bnd_go hf
        refine lv_iinc (v := y2) (lv' := [(1, .int y2), (0, .int x0)]) hx hb dX1_countOf_15 hl (k := 1) rfl (by rw [ex]; rfl) (by decide) rfl (fun ls hl => ?_)
        clear ex
        refine lv_goto (tgt := 2) hx hb dX1_countOf_18 (by decide) ?_
        exact ih S x0 y2 hf _ _ hH _ (lv_sub hl [1, 0] rfl)
set_option maxRecDepth 100000 in
set_option maxHeartbeats 4000000 in
theorem w_X1_countOf_0 {p : Program} {l : Launch} {e : Env} {s : State} {m : MethodId} {args : Array Value} {below : List Frame} {meth : Method} {c : Code} {E : Ev} {r : Int32} {S1 : St} (X : GX p s m meth c args cX1_countOf 2 (some .int) RX1 E) (N : Nat) : ∀ (S : St) (x0 : Int32), f_X1_countOf N S x0 = some (r, S1) → ∀ (H : Heap) (locs : List Loc), HH E S s H locs → ∀ ls : Array Slot, lv_has ls 2 [(0, .int x0)] → W p l e (rmL 1) s m args below meth c H locs 0 0 (MQ below (QI E r S1 s.heap.size) args s 0 0 (AA E s.heap.size)) (F0 m 0 ls []) := by
  have hx := X.1
  have hb := X.2.1
  intro S x0 hf H locs hH ls hl
  rw [f_X1_countOf] at hf
  refine lv_iconst (v := (nI 5)) hx hb dX1_countOf_0 (by decide) ?_
  refine lv_topi (fun y1 ex => ?_)
  replace hf := bnd_at ex hf
  clear ex
  refine lv_istore_n (lv' := [(1, .int y1), (0, .int x0)]) hx hb dX1_countOf_1 rfl hl (by decide) rfl (fun ls hl => ?_)
  exact w_X1_countOf_2 X N N S x0 y1 hf _ _ hH _ (lv_sub hl [1, 0] rfl)
theorem c_X1_countOf {l : Launch} {E : Ev} (N : Nat) (S : St) (x0 : Int32) {r : Int32} {S1 : St} (hf : f_X1_countOf N S x0 = some (r, S1)) : Ct l yX1_countOf (.code yX1_countOf cX1_countOf 2 (some .int)) 1 E [.int x0] S (QI E r S1) := by
  refine Ct.of (by decide) (Nat.le_of_ble_eq_true rfl) (fun p e s m below meth c ls X hH hl => ?_)
  exact w_X1_countOf_0 X N S x0 hf _ _ hH _ hl
set_option maxRecDepth 100000 in
set_option maxHeartbeats 4000000 in
theorem w_X1_of_0 {p : Program} {l : Launch} {e : Env} {s : State} {m : MethodId} {args : Array Value} {below : List Frame} {meth : Method} {c : Code} {E : Ev} {r : Int32} {S1 : St} (X : GX p s m meth c args cX1_of 3 (some .int) RX1 E) (N : Nat) : ∀ (S : St) (x0 : Int32) (x1 : Int32) (x2 : Int32), f_X1_of N S x0 x1 x2 = some (r, S1) → ∀ (H : Heap) (locs : List Loc), HH E S s H locs → ∀ ls : Array Slot, lv_has ls 3 [(0, .int x0), (1, .int x1), (2, .int x2)] → W p l e (rmL 1) s m args below meth c H locs 0 0 (MQ below (QI E r S1 s.heap.size) args s 0 0 (AA E s.heap.size)) (F0 m 0 ls []) := by
  have hx := X.1
  have hb := X.2.1
  intro S x0 x1 x2 hf H locs hH ls hl
  rw [f_X1_of] at hf
  refine lv_iload_n hx hb dX1_of_0 rfl (lv_at hl 0 rfl) ?_
  refine lv_if_lt (tgt := 9) hx hb dX1_of_1 (by decide) (fun c0 => ?_) (fun c0 => ?_)
  · replace hf := ite_t c0 hf
    refine lv_iconst (v := (nI 0)) hx hb dX1_of_9 (by decide) ?_
    exact r_iret X hH hf dX1_of_10
  · replace hf := ite_f c0 hf
    refine lv_iload_n hx hb dX1_of_4 rfl (lv_at hl 0 rfl) ?_
    refine lv_iconst (v := (nI 5)) hx hb dX1_of_5 (by decide) ?_
    refine lv_icmp_le (tgt := 11) hx hb dX1_of_6 (by decide) (fun c0 => ?_) (fun c0 => ?_)
    · replace hf := ite_t c0 hf
      refine r_first X hH q_13_11 dX1_of_11 (fun t1 hTt1 => ?_)
      refine lv_iload_n hx hb dX1_of_14 rfl (lv_at hl 0 rfl) ?_
      obtain ⟨g, hf⟩ := ite_g hf
      refine r_tld X hH hTt1 g dX1_of_15 ?_
      refine lv_iload_n hx hb dX1_of_16 rfl (lv_at hl 1 rfl) ?_
      refine lv_iconst (v := (nI 2)) hx hb dX1_of_17 (by decide) ?_
      refine lv_iload_n hx hb dX1_of_18 rfl (lv_at hl 0 rfl) ?_
      refine lv_imul hx hb dX1_of_19 ?_
      refine lv_ishl hx hb dX1_of_20 ?_
      refine lv_iadd hx hb dX1_of_21 ?_
      refine lv_iload_n hx hb dX1_of_22 rfl (lv_at hl 2 rfl) ?_
      refine lv_iadd hx hb dX1_of_23 ?_
      exact r_iret X hH hf dX1_of_24
    · replace hf := ite_f c0 hf
      refine lv_iconst (v := (nI 0)) hx hb dX1_of_9 (by decide) ?_
      exact r_iret X hH hf dX1_of_10
theorem c_X1_of {l : Launch} {E : Ev} (N : Nat) (S : St) (x0 : Int32) (x1 : Int32) (x2 : Int32) {r : Int32} {S1 : St} (hf : f_X1_of N S x0 x1 x2 = some (r, S1)) : Ct l yX1_of (.code yX1_of cX1_of 3 (some .int)) 1 E [.int x0, .int x1, .int x2] S (QI E r S1) := by
  refine Ct.of (by decide) (Nat.le_of_ble_eq_true rfl) (fun p e s m below meth c ls X hH hl => ?_)
  exact w_X1_of_0 X N S x0 x1 x2 hf _ _ hH _ hl
set_option maxRecDepth 100000 in
set_option maxHeartbeats 4000000 in
theorem w_X1_with_0 {p : Program} {l : Launch} {e : Env} {s : State} {m : MethodId} {args : Array Value} {below : List Frame} {meth : Method} {c : Code} {E : Ev} {r : Int32} {S1 : St} (X : GX p s m meth c args cX1_with 4 (some .int) RX1 E) (N : Nat) : ∀ (S : St) (x0 : Int32) (x1 : Int32) (x2 : Int32), f_X1_with N S x0 x1 x2 = some (r, S1) → ∀ (H : Heap) (locs : List Loc), HH E S s H locs → ∀ ls : Array Slot, lv_has ls 4 [(0, .int x0), (1, .int x1), (2, .int x2)] → W p l e (rmL 1) s m args below meth c H locs 0 0 (MQ below (QI E r S1 s.heap.size) args s 0 0 (AA E s.heap.size)) (F0 m 0 ls []) := by
  have hx := X.1
  have hb := X.2.1
  intro S x0 x1 x2 hf H locs hH ls hl
  rw [f_X1_with] at hf
  refine lv_iload_n hx hb dX1_with_0 rfl (lv_at hl 0 rfl) ?_
  refine lv_iconst (v := (nI 2)) hx hb dX1_with_1 (by decide) ?_
  refine lv_iload_n hx hb dX1_with_2 rfl (lv_at hl 1 rfl) ?_
  refine lv_imul hx hb dX1_with_3 ?_
  refine lv_ishr hx hb dX1_with_4 ?_
  refine lv_topi (fun y1 ex => ?_)
  replace hf := bnd_at ex hf
  clear ex
  refine lv_istore_n (lv' := [(3, .int y1), (0, .int x0), (1, .int x1), (2, .int x2)]) hx hb dX1_with_5 rfl hl (by decide) rfl (fun ls hl => ?_)
  refine lv_iload_n hx hb dX1_with_6 rfl (lv_at hl 0 rfl) ?_
  refine lv_iconst (v := (nI 2)) hx hb dX1_with_7 (by decide) ?_
  refine lv_ishl hx hb dX1_with_8 ?_
  refine lv_iload_n hx hb dX1_with_9 rfl (lv_at hl 3 rfl) ?_
  refine lv_ior hx hb dX1_with_10 ?_
  refine lv_iconst (v := (nI 2)) hx hb dX1_with_11 (by decide) ?_
  refine lv_iload_n hx hb dX1_with_12 rfl (lv_at hl 2 rfl) ?_
  refine lv_imul hx hb dX1_with_13 ?_
  refine lv_ishl hx hb dX1_with_14 ?_
  refine lv_iload_n hx hb dX1_with_15 rfl (lv_at hl 1 rfl) ?_
  refine lv_iconst (v := (nI 1)) hx hb dX1_with_16 (by decide) ?_
  refine lv_iconst (v := (nI 2)) hx hb dX1_with_17 (by decide) ?_
  refine lv_iload_n hx hb dX1_with_18 rfl (lv_at hl 2 rfl) ?_
  refine lv_imul hx hb dX1_with_19 ?_
  refine lv_ishl hx hb dX1_with_20 ?_
  refine lv_iconst (v := (nI 1)) hx hb dX1_with_21 (by decide) ?_
  refine lv_isub hx hb dX1_with_22 ?_
  refine lv_iand hx hb dX1_with_23 ?_
  refine lv_ior hx hb dX1_with_24 ?_
  exact r_iret X hH hf dX1_with_25
theorem c_X1_with {l : Launch} {E : Ev} (N : Nat) (S : St) (x0 : Int32) (x1 : Int32) (x2 : Int32) {r : Int32} {S1 : St} (hf : f_X1_with N S x0 x1 x2 = some (r, S1)) : Ct l yX1_with (.code yX1_with cX1_with 4 (some .int)) 1 E [.int x0, .int x1, .int x2] S (QI E r S1) := by
  refine Ct.of (by decide) (Nat.le_of_ble_eq_true rfl) (fun p e s m below meth c ls X hH hl => ?_)
  exact w_X1_with_0 X N S x0 x1 x2 hf _ _ hH _ hl
set_option maxRecDepth 100000 in
set_option maxHeartbeats 4000000 in
theorem w_X1_without_0 {p : Program} {l : Launch} {e : Env} {s : State} {m : MethodId} {args : Array Value} {below : List Frame} {meth : Method} {c : Code} {E : Ev} {r : Int32} {S1 : St} (X : GX p s m meth c args cX1_without 3 (some .int) RX1 E) (N : Nat) : ∀ (S : St) (x0 : Int32) (x1 : Int32), f_X1_without N S x0 x1 = some (r, S1) → ∀ (H : Heap) (locs : List Loc), HH E S s H locs → ∀ ls : Array Slot, lv_has ls 3 [(0, .int x0), (1, .int x1)] → W p l e (rmL 1) s m args below meth c H locs 0 0 (MQ below (QI E r S1 s.heap.size) args s 0 0 (AA E s.heap.size)) (F0 m 0 ls []) := by
  have hx := X.1
  have hb := X.2.1
  intro S x0 x1 hf H locs hH ls hl
  rw [f_X1_without] at hf
  refine lv_iload_n hx hb dX1_without_0 rfl (lv_at hl 0 rfl) ?_
  refine lv_iconst (v := (nI 2)) hx hb dX1_without_1 (by decide) ?_
  refine lv_iload_n hx hb dX1_without_2 rfl (lv_at hl 1 rfl) ?_
  refine lv_imul hx hb dX1_without_3 ?_
  refine lv_ishr hx hb dX1_without_4 ?_
  refine lv_topi (fun y1 ex => ?_)
  replace hf := bnd_at ex hf
  clear ex
  refine lv_istore_n (lv' := [(2, .int y1), (0, .int x0), (1, .int x1)]) hx hb dX1_without_5 rfl hl (by decide) rfl (fun ls hl => ?_)
  refine lv_iload_n hx hb dX1_without_6 rfl (lv_at hl 0 rfl) ?_
  refine lv_iconst (v := (nI 2)) hx hb dX1_without_7 (by decide) ?_
  refine lv_ishr hx hb dX1_without_8 ?_
  refine lv_iconst (v := (nI 2)) hx hb dX1_without_9 (by decide) ?_
  refine lv_iload_n hx hb dX1_without_10 rfl (lv_at hl 2 rfl) ?_
  refine lv_imul hx hb dX1_without_11 ?_
  refine lv_ishl hx hb dX1_without_12 ?_
  refine lv_iload_n hx hb dX1_without_13 rfl (lv_at hl 1 rfl) ?_
  refine lv_iconst (v := (nI 1)) hx hb dX1_without_14 (by decide) ?_
  refine lv_iconst (v := (nI 2)) hx hb dX1_without_15 (by decide) ?_
  refine lv_iload_n hx hb dX1_without_16 rfl (lv_at hl 2 rfl) ?_
  refine lv_imul hx hb dX1_without_17 ?_
  refine lv_ishl hx hb dX1_without_18 ?_
  refine lv_iconst (v := (nI 1)) hx hb dX1_without_19 (by decide) ?_
  refine lv_isub hx hb dX1_without_20 ?_
  refine lv_iand hx hb dX1_without_21 ?_
  refine lv_ior hx hb dX1_without_22 ?_
  exact r_iret X hH hf dX1_without_23
theorem c_X1_without {l : Launch} {E : Ev} (N : Nat) (S : St) (x0 : Int32) (x1 : Int32) {r : Int32} {S1 : St} (hf : f_X1_without N S x0 x1 = some (r, S1)) : Ct l yX1_without (.code yX1_without cX1_without 3 (some .int)) 1 E [.int x0, .int x1] S (QI E r S1) := by
  refine Ct.of (by decide) (Nat.le_of_ble_eq_true rfl) (fun p e s m below meth c ls X hH hl => ?_)
  exact w_X1_without_0 X N S x0 x1 hf _ _ hH _ hl
set_option maxRecDepth 100000 in
set_option maxHeartbeats 4000000 in
theorem w_X1_after_79 {p : Program} {l : Launch} {e : Env} {s : State} {m : MethodId} {args : Array Value} {below : List Frame} {meth : Method} {c : Code} {E : Ev} {r : Int32} {S1 : St} (X : GX p s m meth c args cX1_after 6 (some .int) RX1 E) (N : Nat) : ∀ (S : St) (x0 : Int32) (x1 : Int32) (x2 : Int32) (x3 : Int32) (x4 : Int32) (xs0 : Int32), f_X1_after_79 N S x0 x1 x2 x3 x4 xs0 = some (r, S1) → ∀ (H : Heap) (locs : List Loc), HH E S s H locs → ∀ ls : Array Slot, lv_has ls 6 [(0, .int x0), (1, .int x1), (2, .int x2), (3, .int x3), (4, .int x4)] → W p l e (rmL 2) s m args below meth c H locs 0 0 (MQ below (QI E r S1 s.heap.size) args s 0 0 (AA E s.heap.size)) (F0 m 79 ls [.int xs0]) := by
  have hx := X.1
  have hb := X.2.1
  intro S x0 x1 x2 x3 x4 xs0 hf H locs hH ls hl
  rw [f_X1_after_79] at hf
  refine lv_istore (lv' := [(5, .int xs0), (0, .int x0), (1, .int x1), (2, .int x2), (3, .int x3), (4, .int x4)]) hx hb dX1_after_79 hl (by decide) rfl (fun ls hl => ?_)
  refine lv_iload hx hb dX1_after_81 (lv_at hl 0 rfl) ?_
  refine lv_if_eq (tgt := 88) hx hb dX1_after_83 (by decide) (fun c0 => ?_) (fun c0 => ?_)
  · replace hf := ite_t c0 hf
    refine lv_iload_n hx hb dX1_after_88 rfl (lv_at hl 2 rfl) ?_
    refine lv_topi (fun y1 ex => ?_)
    replace hf := bnd_at ex hf
    clear ex
    by_cases c0 : y1 = (nI 4)
    · replace hf := ite_t c0 hf
      subst c0
      refine lv_tableIn (tgt := 120) hx hb dX1_after_89 (by decide) (by decide) rfl (by decide) ?_
      refine lv_iload_n hx hb dX1_after_120 rfl (lv_at hl 3 rfl) ?_
      refine lv_iload_n hx hb dX1_after_121 rfl (lv_at hl 4 rfl) ?_
      refine lv_iconst (v := (nI 1)) hx hb dX1_after_122 (by decide) ?_
      refine lv_isub hx hb dX1_after_123 ?_
      refine lv_iload hx hb dX1_after_124 (lv_at hl 5 rfl) ?_
      obtain ⟨r4, S2, h3, hf⟩ := cal_g hf
      refine go_i hH (run_S X hH (rest := []) (c_X1_of N S x2 (x3 - (nI 1)) x4 h3) gm_X1_23 rfl hl.1 (rmL_ok (by decide) (by decide)) (Nat.le_of_ble_eq_true rfl) rfl dX1_after_126) (fun H locs hH => ?_)
      clear h3
      exact r_iret X hH hf dX1_after_129
    · replace hf := ite_f c0 hf
      by_cases c1 : y1 = (nI 5)
      · replace hf := ite_t c1 hf
        subst c1
        refine lv_tableIn (tgt := 130) hx hb dX1_after_89 (by decide) (by decide) rfl (by decide) ?_
        refine lv_iload_n hx hb dX1_after_130 rfl (lv_at hl 3 rfl) ?_
        refine lv_iload_n hx hb dX1_after_131 rfl (lv_at hl 4 rfl) ?_
        refine lv_iconst (v := (nI 1)) hx hb dX1_after_132 (by decide) ?_
        refine lv_iadd hx hb dX1_after_133 ?_
        refine lv_iload hx hb dX1_after_134 (lv_at hl 5 rfl) ?_
        obtain ⟨r7, S5, h6, hf⟩ := cal_g hf
        refine go_i hH (run_S X hH (rest := []) (c_X1_of N S x2 (x3 + (nI 1)) x4 h6) gm_X1_23 rfl hl.1 (rmL_ok (by decide) (by decide)) (Nat.le_of_ble_eq_true rfl) rfl dX1_after_136) (fun H locs hH => ?_)
        clear h6
        exact r_iret X hH hf dX1_after_139
      · replace hf := ite_f c1 hf
        by_cases c2 : y1 = (nI 6)
        · replace hf := ite_t c2 hf
          subst c2
          refine lv_tableIn (tgt := 140) hx hb dX1_after_89 (by decide) (by decide) rfl (by decide) ?_
          refine lv_iload_n hx hb dX1_after_140 rfl (lv_at hl 3 rfl) ?_
          refine lv_iconst (v := (nI 1)) hx hb dX1_after_141 (by decide) ?_
          refine lv_isub hx hb dX1_after_142 ?_
          refine lv_iload_n hx hb dX1_after_143 rfl (lv_at hl 4 rfl) ?_
          refine lv_iconst (v := (nI 1)) hx hb dX1_after_144 (by decide) ?_
          refine lv_isub hx hb dX1_after_145 ?_
          refine lv_iload hx hb dX1_after_146 (lv_at hl 5 rfl) ?_
          refine lv_iload_n hx hb dX1_after_148 rfl (lv_at hl 3 rfl) ?_
          refine lv_iload_n hx hb dX1_after_149 rfl (lv_at hl 4 rfl) ?_
          refine lv_isub hx hb dX1_after_150 ?_
          obtain ⟨r10, S8, h9, hf⟩ := cal_g hf
          refine go_i hH (run_S X hH (rest := [.int (x3 - (nI 1)), .int (x2 - (nI 1))]) (c_X1_without N S x4 (x2 - x3) h9) gm_X1_27 rfl hl.1 (rmL_ok (by decide) (by decide)) (Nat.le_of_ble_eq_true rfl) rfl dX1_after_151) (fun H locs hH => ?_)
          clear h9
          obtain ⟨r13, S11, h12, hf⟩ := cal_g hf
          refine go_i hH (run_S X hH (rest := []) (c_X1_of N S8 (x2 - (nI 1)) (x3 - (nI 1)) r10 h12) gm_X1_23 rfl hl.1 (rmL_ok (by decide) (by decide)) (Nat.le_of_ble_eq_true rfl) rfl dX1_after_154) (fun H locs hH => ?_)
          clear h12
          exact r_iret X hH hf dX1_after_157
        · replace hf := ite_f c2 hf
          by_cases c3 : y1 = (nI 7)
          · replace hf := ite_t c3 hf
            subst c3
            refine lv_tableIn (tgt := 158) hx hb dX1_after_89 (by decide) (by decide) rfl (by decide) ?_
            refine lv_iload_n hx hb dX1_after_158 rfl (lv_at hl 3 rfl) ?_
            refine lv_iconst (v := (nI 0)) hx hb dX1_after_159 (by decide) ?_
            refine lv_iload hx hb dX1_after_160 (lv_at hl 5 rfl) ?_
            obtain ⟨r16, S14, h15, hf⟩ := cal_g hf
            refine go_i hH (run_S X hH (rest := []) (c_X1_of N S x2 (nI 0) x4 h15) gm_X1_23 rfl hl.1 (rmL_ok (by decide) (by decide)) (Nat.le_of_ble_eq_true rfl) rfl dX1_after_162) (fun H locs hH => ?_)
            clear h15
            exact r_iret X hH hf dX1_after_165
          · replace hf := ite_f c3 hf
            refine lv_tableOut (tgt := 166) hx hb dX1_after_89 (by have t0 : y1.toInt ≠ 4 := i32_ne c0; have t1 : y1.toInt ≠ 5 := i32_ne c1; have t2 : y1.toInt ≠ 6 := i32_ne c2; have t3 : y1.toInt ≠ 7 := i32_ne c3; omega) (by decide) ?_
            refine lv_iload_n hx hb dX1_after_166 rfl (lv_at hl 3 rfl) ?_
            refine lv_iconst (v := (nI 1)) hx hb dX1_after_167 (by decide) ?_
            refine lv_iadd hx hb dX1_after_168 ?_
            refine lv_iload_n hx hb dX1_after_169 rfl (lv_at hl 4 rfl) ?_
            refine lv_iconst (v := (nI 1)) hx hb dX1_after_170 (by decide) ?_
            refine lv_iadd hx hb dX1_after_171 ?_
            refine lv_iload hx hb dX1_after_172 (lv_at hl 5 rfl) ?_
            refine lv_iload_n hx hb dX1_after_174 rfl (lv_at hl 3 rfl) ?_
            refine lv_iload_n hx hb dX1_after_175 rfl (lv_at hl 4 rfl) ?_
            refine lv_isub hx hb dX1_after_176 ?_
            refine lv_iload_n hx hb dX1_after_177 rfl (lv_at hl 2 rfl) ?_
            obtain ⟨r19, S17, h18, hf⟩ := cal_g hf
            refine go_i hH (run_S X hH (rest := [.int (x3 + (nI 1)), .int (x2 + (nI 1))]) (c_X1_with N S x4 (x2 - x3) x1 h18) gm_X1_30 rfl hl.1 (rmL_ok (by decide) (by decide)) (Nat.le_of_ble_eq_true rfl) rfl dX1_after_178) (fun H locs hH => ?_)
            clear h18
            obtain ⟨r22, S20, h21, hf⟩ := cal_g hf
            refine go_i hH (run_S X hH (rest := []) (c_X1_of N S17 (x2 + (nI 1)) (x3 + (nI 1)) r19 h21) gm_X1_23 rfl hl.1 (rmL_ok (by decide) (by decide)) (Nat.le_of_ble_eq_true rfl) rfl dX1_after_181) (fun H locs hH => ?_)
            clear h21
            exact r_iret X hH hf dX1_after_184
  · replace hf := ite_f c0 hf
    refine lv_iload_n hx hb dX1_after_86 rfl (lv_at hl 1 rfl) ?_
    exact r_iret X hH hf dX1_after_87
set_option maxRecDepth 100000 in
set_option maxHeartbeats 4000000 in
theorem w_X1_after_0 {p : Program} {l : Launch} {e : Env} {s : State} {m : MethodId} {args : Array Value} {below : List Frame} {meth : Method} {c : Code} {E : Ev} {r : Int32} {S1 : St} (X : GX p s m meth c args cX1_after 6 (some .int) RX1 E) (N : Nat) : ∀ (S : St) (x0 : Int32) (x1 : Int32), f_X1_after N S x0 x1 = some (r, S1) → ∀ (H : Heap) (locs : List Loc), HH E S s H locs → ∀ ls : Array Slot, lv_has ls 6 [(0, .int x0), (1, .int x1)] → W p l e (rmL 2) s m args below meth c H locs 0 0 (MQ below (QI E r S1 s.heap.size) args s 0 0 (AA E s.heap.size)) (F0 m 0 ls []) := by
  have hx := X.1
  have hb := X.2.1
  intro S x0 x1 hf H locs hH ls hl
  rw [f_X1_after] at hf
  refine lv_iload_n hx hb dX1_after_0 rfl (lv_at hl 0 rfl) ?_
  obtain ⟨r3, S1, h2, hf⟩ := cal_g hf
  refine go_i hH (run_S X hH (rest := []) (c_X1_countOf N S x0 h2) gm_X1_15 rfl hl.1 (rmL_ok (by decide) (by decide)) (Nat.le_of_ble_eq_true rfl) rfl dX1_after_1) (fun H locs hH => ?_)
  clear h2
  refine lv_istore_n (lv' := [(2, .int r3), (0, .int x0), (1, .int x1)]) hx hb dX1_after_4 rfl hl (by decide) rfl (fun ls hl => ?_)
  refine lv_iload_n hx hb dX1_after_5 rfl (lv_at hl 1 rfl) ?_
  refine r_first X hH q_13_11 dX1_after_6 (fun t4 hTt4 => ?_)
  refine lv_iload_n hx hb dX1_after_9 rfl (lv_at hl 0 rfl) ?_
  obtain ⟨g, hf⟩ := ite_g hf
  refine r_tld X hH hTt4 g dX1_after_10 ?_
  refine lv_isub hx hb dX1_after_11 ?_
  refine lv_iconst (v := (nI 2)) hx hb dX1_after_12 (by decide) ?_
  refine lv_iload_n hx hb dX1_after_13 rfl (lv_at hl 0 rfl) ?_
  refine lv_imul hx hb dX1_after_14 ?_
  refine lv_ishr hx hb dX1_after_15 ?_
  refine lv_topi (fun y5 ex => ?_)
  replace hf := bnd_at ex hf
  clear ex
  refine lv_istore_n (lv' := [(3, .int y5), (2, .int r3), (0, .int x0), (1, .int x1)]) hx hb dX1_after_16 rfl hl (by decide) rfl (fun ls hl => ?_)
  refine lv_iload_n hx hb dX1_after_17 rfl (lv_at hl 2 rfl) ?_
  refine r_first X hH q_13_11 dX1_after_18 (fun t6 hTt6 => ?_)
  refine lv_iload_n hx hb dX1_after_21 rfl (lv_at hl 1 rfl) ?_
  obtain ⟨g, hf⟩ := ite_g hf
  refine r_tld X hH hTt6 g dX1_after_22 ?_
  refine lv_isub hx hb dX1_after_23 ?_
  refine lv_iconst (v := (nI 1)) hx hb dX1_after_24 (by decide) ?_
  refine lv_iconst (v := (nI 2)) hx hb dX1_after_25 (by decide) ?_
  refine lv_iload_n hx hb dX1_after_26 rfl (lv_at hl 1 rfl) ?_
  refine lv_imul hx hb dX1_after_27 ?_
  refine lv_ishl hx hb dX1_after_28 ?_
  refine lv_iconst (v := (nI 1)) hx hb dX1_after_29 (by decide) ?_
  refine lv_isub hx hb dX1_after_30 ?_
  refine lv_iand hx hb dX1_after_31 ?_
  refine lv_topi (fun y7 ex => ?_)
  replace hf := bnd_at ex hf
  clear ex
  refine lv_istore (lv' := [(4, .int y7), (3, .int y5), (2, .int r3), (0, .int x0), (1, .int x1)]) hx hb dX1_after_32 hl (by decide) rfl (fun ls hl => ?_)
  refine lv_iload_n hx hb dX1_after_34 rfl (lv_at hl 4 rfl) ?_
  refine lv_iconst (v := (nI 4)) hx hb dX1_after_35 (by decide) ?_
  refine lv_icmp_ge (tgt := 52) hx hb dX1_after_36 (by decide) (fun c0 => ?_) (fun c0 => ?_)
  · replace hf := ite_t c0 hf
    refine lv_iload_n hx hb dX1_after_52 rfl (lv_at hl 4 rfl) ?_
    refine lv_iconst (v := (nI 5)) hx hb dX1_after_53 (by decide) ?_
    refine lv_icmp_ne (tgt := 70) hx hb dX1_after_54 (by decide) (fun c0 => ?_) (fun c0 => ?_)
    · replace hf := ite_f c0 hf
      refine lv_iload_n hx hb dX1_after_70 rfl (lv_at hl 1 rfl) ?_
      refine lv_if_ne (tgt := 78) hx hb dX1_after_71 (by decide) (fun c0 => ?_) (fun c0 => ?_)
      · replace hf := ite_f c0 hf
        refine lv_iconst (v := (nI 0)) hx hb dX1_after_78 (by decide) ?_
        exact w_X1_after_79 X N S1 x0 x1 r3 y5 y7 (nI 0) hf _ _ hH _ (lv_sub hl [3, 4, 2, 1, 0] rfl)
      · replace hf := ite_t c0 hf
        refine lv_iconst (v := (nI 1)) hx hb dX1_after_74 (by decide) ?_
        refine lv_goto (tgt := 79) hx hb dX1_after_75 (by decide) ?_
        exact w_X1_after_79 X N S1 x0 x1 r3 y5 y7 (nI 1) hf _ _ hH _ (lv_sub hl [3, 4, 2, 1, 0] rfl)
    · replace hf := ite_t c0 hf
      refine lv_iload_n hx hb dX1_after_57 rfl (lv_at hl 1 rfl) ?_
      refine lv_iload_n hx hb dX1_after_58 rfl (lv_at hl 2 rfl) ?_
      refine lv_icmp_ne (tgt := 66) hx hb dX1_after_59 (by decide) (fun c0 => ?_) (fun c0 => ?_)
      · replace hf := ite_f c0 hf
        refine lv_iconst (v := (nI 0)) hx hb dX1_after_66 (by decide) ?_
        refine lv_goto (tgt := 79) hx hb dX1_after_67 (by decide) ?_
        exact w_X1_after_79 X N S1 x0 x1 r3 y5 y7 (nI 0) hf _ _ hH _ (lv_sub hl [3, 4, 2, 1, 0] rfl)
      · replace hf := ite_t c0 hf
        refine lv_iconst (v := (nI 1)) hx hb dX1_after_62 (by decide) ?_
        refine lv_goto (tgt := 79) hx hb dX1_after_63 (by decide) ?_
        exact w_X1_after_79 X N S1 x0 x1 r3 y5 y7 (nI 1) hf _ _ hH _ (lv_sub hl [3, 4, 2, 1, 0] rfl)
  · replace hf := ite_f c0 hf
    refine lv_iload_n hx hb dX1_after_39 rfl (lv_at hl 2 rfl) ?_
    refine lv_iconst (v := (nI 5)) hx hb dX1_after_40 (by decide) ?_
    refine lv_icmp_ne (tgt := 48) hx hb dX1_after_41 (by decide) (fun c0 => ?_) (fun c0 => ?_)
    · replace hf := ite_f c0 hf
      refine lv_iconst (v := (nI 0)) hx hb dX1_after_48 (by decide) ?_
      refine lv_goto (tgt := 79) hx hb dX1_after_49 (by decide) ?_
      exact w_X1_after_79 X N S1 x0 x1 r3 y5 y7 (nI 0) hf _ _ hH _ (lv_sub hl [3, 4, 2, 1, 0] rfl)
    · replace hf := ite_t c0 hf
      refine lv_iconst (v := (nI 1)) hx hb dX1_after_44 (by decide) ?_
      refine lv_goto (tgt := 79) hx hb dX1_after_45 (by decide) ?_
      exact w_X1_after_79 X N S1 x0 x1 r3 y5 y7 (nI 1) hf _ _ hH _ (lv_sub hl [3, 4, 2, 1, 0] rfl)
theorem c_X1_after {l : Launch} {E : Ev} (N : Nat) (S : St) (x0 : Int32) (x1 : Int32) {r : Int32} {S1 : St} (hf : f_X1_after N S x0 x1 = some (r, S1)) : Ct l yX1_after (.code yX1_after cX1_after 6 (some .int)) 2 E [.int x0, .int x1] S (QI E r S1) := by
  refine Ct.of (by decide) (Nat.le_of_ble_eq_true rfl) (fun p e s m below meth c ls X hH hl => ?_)
  exact w_X1_after_0 X N S x0 x1 hf _ _ hH _ hl
set_option maxRecDepth 100000 in
set_option maxHeartbeats 4000000 in
theorem w_X1_isLine_0 {p : Program} {l : Launch} {e : Env} {s : State} {m : MethodId} {args : Array Value} {below : List Frame} {meth : Method} {c : Code} {E : Ev} {r : Int32} {S1 : St} (X : GX p s m meth c args cX1_isLine 1 (some .boolean) RX1 E) (N : Nat) : ∀ (S : St) (x0 : Int32), f_X1_isLine N S x0 = some (r, S1) → ∀ (H : Heap) (locs : List Loc), HH E S s H locs → ∀ ls : Array Slot, lv_has ls 1 [(0, .int x0)] → W p l e (rmL 1) s m args below meth c H locs 0 0 (MQ below (QI E r S1 s.heap.size) args s 0 0 (AA E s.heap.size)) (F0 m 0 ls []) := by
  have hx := X.1
  have hb := X.2.1
  intro S x0 hf H locs hH ls hl
  rw [f_X1_isLine] at hf
  refine lv_iload_n hx hb dX1_isLine_0 rfl (lv_at hl 0 rfl) ?_
  refine lv_if_lt (tgt := 15) hx hb dX1_isLine_1 (by decide) (fun c0 => ?_) (fun c0 => ?_)
  · replace hf := ite_t c0 hf
    refine lv_iconst (v := (nI 0)) hx hb dX1_isLine_15 (by decide) ?_
    exact r_zret X hH (by decide) hf dX1_isLine_16
  · replace hf := ite_f c0 hf
    refine lv_iload_n hx hb dX1_isLine_4 rfl (lv_at hl 0 rfl) ?_
    refine lv_sipush (v := (nI 7737)) hx hb dX1_isLine_5 (by decide) ?_
    refine lv_icmp_ge (tgt := 15) hx hb dX1_isLine_8 (by decide) (fun c0 => ?_) (fun c0 => ?_)
    · replace hf := ite_t c0 hf
      refine lv_iconst (v := (nI 0)) hx hb dX1_isLine_15 (by decide) ?_
      exact r_zret X hH (by decide) hf dX1_isLine_16
    · replace hf := ite_f c0 hf
      refine lv_iconst (v := (nI 1)) hx hb dX1_isLine_11 (by decide) ?_
      refine lv_goto (tgt := 16) hx hb dX1_isLine_12 (by decide) ?_
      exact r_zret X hH (by decide) hf dX1_isLine_16
theorem c_X1_isLine {l : Launch} {E : Ev} (N : Nat) (S : St) (x0 : Int32) {r : Int32} {S1 : St} (hf : f_X1_isLine N S x0 = some (r, S1)) : Ct l yX1_isLine (.code yX1_isLine cX1_isLine 1 (some .boolean)) 1 E [.int x0] S (QI E r S1) := by
  refine Ct.of (by decide) (Nat.le_of_ble_eq_true rfl) (fun p e s m below meth c ls X hH hl => ?_)
  exact w_X1_isLine_0 X N S x0 hf _ _ hH _ hl
set_option maxRecDepth 100000 in
set_option maxHeartbeats 4000000 in
theorem w_X1_cursorOf_0 {p : Program} {l : Launch} {e : Env} {s : State} {m : MethodId} {args : Array Value} {below : List Frame} {meth : Method} {c : Code} {E : Ev} {r : Int32} {S1 : St} (X : GX p s m meth c args cX1_cursorOf 2 (some .int) RX1 E) (N : Nat) : ∀ (S : St) (x0 : Int32), f_X1_cursorOf N S x0 = some (r, S1) → ∀ (H : Heap) (locs : List Loc), HH E S s H locs → ∀ ls : Array Slot, lv_has ls 2 [(0, .int x0)] → W p l e (rmL 2) s m args below meth c H locs 0 0 (MQ below (QI E r S1 s.heap.size) args s 0 0 (AA E s.heap.size)) (F0 m 0 ls []) := by
  have hx := X.1
  have hb := X.2.1
  intro S x0 hf H locs hH ls hl
  rw [f_X1_cursorOf] at hf
  refine lv_iload_n hx hb dX1_cursorOf_0 rfl (lv_at hl 0 rfl) ?_
  obtain ⟨r3, S1, h2, hf⟩ := cal_g hf
  refine go_i hH (run_S X hH (rest := []) (c_X1_countOf N S x0 h2) gm_X1_15 rfl hl.1 (rmL_ok (by decide) (by decide)) (Nat.le_of_ble_eq_true rfl) rfl dX1_cursorOf_1) (fun H locs hH => ?_)
  clear h2
  refine lv_istore_n (lv' := [(1, .int r3), (0, .int x0)]) hx hb dX1_cursorOf_4 rfl hl (by decide) rfl (fun ls hl => ?_)
  refine lv_iload_n hx hb dX1_cursorOf_5 rfl (lv_at hl 1 rfl) ?_
  refine r_first X hH q_13_11 dX1_cursorOf_6 (fun t4 hTt4 => ?_)
  refine lv_iload_n hx hb dX1_cursorOf_9 rfl (lv_at hl 0 rfl) ?_
  obtain ⟨g, hf⟩ := ite_g hf
  refine r_tld X hH hTt4 g dX1_cursorOf_10 ?_
  refine lv_isub hx hb dX1_cursorOf_11 ?_
  refine lv_iconst (v := (nI 2)) hx hb dX1_cursorOf_12 (by decide) ?_
  refine lv_iload_n hx hb dX1_cursorOf_13 rfl (lv_at hl 0 rfl) ?_
  refine lv_imul hx hb dX1_cursorOf_14 ?_
  refine lv_ishr hx hb dX1_cursorOf_15 ?_
  exact r_iret X hH hf dX1_cursorOf_16
theorem c_X1_cursorOf {l : Launch} {E : Ev} (N : Nat) (S : St) (x0 : Int32) {r : Int32} {S1 : St} (hf : f_X1_cursorOf N S x0 = some (r, S1)) : Ct l yX1_cursorOf (.code yX1_cursorOf cX1_cursorOf 2 (some .int)) 2 E [.int x0] S (QI E r S1) := by
  refine Ct.of (by decide) (Nat.le_of_ble_eq_true rfl) (fun p e s m below meth c ls X hH hl => ?_)
  exact w_X1_cursorOf_0 X N S x0 hf _ _ hH _ hl
set_option maxRecDepth 100000 in
set_option maxHeartbeats 4000000 in
theorem w_X1_letterAt_0 {p : Program} {l : Launch} {e : Env} {s : State} {m : MethodId} {args : Array Value} {below : List Frame} {meth : Method} {c : Code} {E : Ev} {r : Int32} {S1 : St} (X : GX p s m meth c args cX1_letterAt 3 (some .int) RX1 E) (N : Nat) : ∀ (S : St) (x0 : Int32) (x1 : Int32), f_X1_letterAt N S x0 x1 = some (r, S1) → ∀ (H : Heap) (locs : List Loc), HH E S s H locs → ∀ ls : Array Slot, lv_has ls 3 [(0, .int x0), (1, .int x1)] → W p l e (rmL 2) s m args below meth c H locs 0 0 (MQ below (QI E r S1 s.heap.size) args s 0 0 (AA E s.heap.size)) (F0 m 0 ls []) := by
  have hx := X.1
  have hb := X.2.1
  intro S x0 x1 hf H locs hH ls hl
  rw [f_X1_letterAt] at hf
  refine lv_iload_n hx hb dX1_letterAt_0 rfl (lv_at hl 0 rfl) ?_
  obtain ⟨r3, S1, h2, hf⟩ := cal_g hf
  refine go_i hH (run_S X hH (rest := []) (c_X1_countOf N S x0 h2) gm_X1_15 rfl hl.1 (rmL_ok (by decide) (by decide)) (Nat.le_of_ble_eq_true rfl) rfl dX1_letterAt_1) (fun H locs hH => ?_)
  clear h2
  refine lv_istore_n (lv' := [(2, .int r3), (0, .int x0), (1, .int x1)]) hx hb dX1_letterAt_4 rfl hl (by decide) rfl (fun ls hl => ?_)
  refine lv_iload_n hx hb dX1_letterAt_5 rfl (lv_at hl 1 rfl) ?_
  refine r_first X hH q_13_11 dX1_letterAt_6 (fun t4 hTt4 => ?_)
  refine lv_iload_n hx hb dX1_letterAt_9 rfl (lv_at hl 0 rfl) ?_
  obtain ⟨g, hf⟩ := ite_g hf
  refine r_tld X hH hTt4 g dX1_letterAt_10 ?_
  refine lv_isub hx hb dX1_letterAt_11 ?_
  refine lv_iconst (v := (nI 2)) hx hb dX1_letterAt_12 (by decide) ?_
  refine lv_iload_n hx hb dX1_letterAt_13 rfl (lv_at hl 0 rfl) ?_
  refine lv_iconst (v := (nI 1)) hx hb dX1_letterAt_14 (by decide) ?_
  refine lv_isub hx hb dX1_letterAt_15 ?_
  refine lv_iload_n hx hb dX1_letterAt_16 rfl (lv_at hl 2 rfl) ?_
  refine lv_isub hx hb dX1_letterAt_17 ?_
  refine lv_imul hx hb dX1_letterAt_18 ?_
  refine lv_ishr hx hb dX1_letterAt_19 ?_
  refine lv_iconst (v := (nI 3)) hx hb dX1_letterAt_20 (by decide) ?_
  refine lv_iand hx hb dX1_letterAt_21 ?_
  exact r_iret X hH hf dX1_letterAt_22
theorem c_X1_letterAt {l : Launch} {E : Ev} (N : Nat) (S : St) (x0 : Int32) (x1 : Int32) {r : Int32} {S1 : St} (hf : f_X1_letterAt N S x0 x1 = some (r, S1)) : Ct l yX1_letterAt (.code yX1_letterAt cX1_letterAt 3 (some .int)) 2 E [.int x0, .int x1] S (QI E r S1) := by
  refine Ct.of (by decide) (Nat.le_of_ble_eq_true rfl) (fun p e s m below meth c ls X hH hl => ?_)
  exact w_X1_letterAt_0 X N S x0 x1 hf _ _ hH _ hl
set_option maxRecDepth 100000 in
set_option maxHeartbeats 4000000 in
theorem w_X1_digitsOf_9 {p : Program} {l : Launch} {e : Env} {s : State} {m : MethodId} {args : Array Value} {below : List Frame} {meth : Method} {c : Code} {E : Ev} {r : Int32} {S1 : St} (X : GX p s m meth c args cX1_digitsOf 4 (some .int) RX1 E) (N : Nat) : ∀ (n : Nat) (S : St) (x0 : Int32) (x1 : Int32) (x2 : Int32) (x3 : Int32), f_X1_digitsOf_9 N n S x0 x1 x2 x3 = some (r, S1) → ∀ (H : Heap) (locs : List Loc), HH E S s H locs → ∀ ls : Array Slot, lv_has ls 4 [(0, .int x0), (1, .int x1), (2, .int x2), (3, .int x3)] → W p l e (rmL 3) s m args below meth c H locs 0 0 (MQ below (QI E r S1 s.heap.size) args s 0 0 (AA E s.heap.size)) (F0 m 9 ls []) := by
  have hx := X.1
  have hb := X.2.1
  intro n
  induction n with
  | zero =>
    intro S x0 x1 x2 x3 hf
    cases hf
  | succ n ih =>
    intro S x0 x1 x2 x3 hf H locs hH ls hl
    rw [f_X1_digitsOf_9] at hf
    refine lv_iload_n hx hb dX1_digitsOf_9 rfl (lv_at hl 3 rfl) ?_
    refine lv_iload_n hx hb dX1_digitsOf_10 rfl (lv_at hl 1 rfl) ?_
    refine lv_icmp_ge (tgt := 33) hx hb dX1_digitsOf_11 (by decide) (fun c0 => ?_) (fun c0 => ?_)
    · replace hf := ite_t c0 hf
      refine lv_iload_n hx hb dX1_digitsOf_33 rfl (lv_at hl 2 rfl) ?_
      exact r_iret X hH hf dX1_digitsOf_34
    · replace hf := ite_f c0 hf
      refine lv_iload_n hx hb dX1_digitsOf_14 rfl (lv_at hl 2 rfl) ?_
      refine lv_bipush (v := (nI 10)) hx hb dX1_digitsOf_15 (by decide) ?_
      refine lv_imul hx hb dX1_digitsOf_17 ?_
      refine lv_iload_n hx hb dX1_digitsOf_18 rfl (lv_at hl 0 rfl) ?_
      refine lv_iload_n hx hb dX1_digitsOf_19 rfl (lv_at hl 3 rfl) ?_
      obtain ⟨r3, S1, h2, hf⟩ := cal_g hf
      refine go_i hH (run_S X hH (rest := [.int (x2 * (nI 10))]) (c_X1_letterAt N S x0 x3 h2) gm_X1_19 rfl hl.1 (rmL_ok (by decide) (by decide)) (Nat.le_of_ble_eq_true rfl) rfl dX1_digitsOf_20) (fun H locs hH => ?_)
      clear h2
      refine lv_iadd hx hb dX1_digitsOf_23 ?_
      refine lv_iconst (v := (nI 1)) hx hb dX1_digitsOf_24 (by decide) ?_
      refine lv_iadd hx hb dX1_digitsOf_25 ?_
      refine lv_topi (fun y4 ex => ?_)
      replace hf := bnd_at ex hf
      clear ex
      refine lv_istore_n (lv' := [(2, .int y4), (0, .int x0), (1, .int x1), (3, .int x3)]) hx hb dX1_digitsOf_26 rfl hl (by decide) rfl (fun ls hl => ?_)
      obtain ⟨y5, ex, hf⟩ := bnd_go hf
      refine lv_iinc (v := y5) (lv' := [(3, .int y5), (2, .int y4), (0, .int x0), (1, .int x1)]) hx hb dX1_digitsOf_27 hl (k := 3) rfl (by rw [ex]; rfl) (by decide) rfl (fun ls hl => ?_)
      clear ex
      refine lv_goto (tgt := 9) hx hb dX1_digitsOf_30 (by decide) ?_
      exact ih S1 x0 x1 y4 y5 hf _ _ hH _ (lv_sub hl [2, 3, 1, 0] rfl)
set_option maxRecDepth 100000 in
set_option maxHeartbeats 4000000 in
theorem w_X1_digitsOf_0 {p : Program} {l : Launch} {e : Env} {s : State} {m : MethodId} {args : Array Value} {below : List Frame} {meth : Method} {c : Code} {E : Ev} {r : Int32} {S1 : St} (X : GX p s m meth c args cX1_digitsOf 4 (some .int) RX1 E) (N : Nat) : ∀ (S : St) (x0 : Int32), f_X1_digitsOf N S x0 = some (r, S1) → ∀ (H : Heap) (locs : List Loc), HH E S s H locs → ∀ ls : Array Slot, lv_has ls 4 [(0, .int x0)] → W p l e (rmL 3) s m args below meth c H locs 0 0 (MQ below (QI E r S1 s.heap.size) args s 0 0 (AA E s.heap.size)) (F0 m 0 ls []) := by
  have hx := X.1
  have hb := X.2.1
  intro S x0 hf H locs hH ls hl
  rw [f_X1_digitsOf] at hf
  refine lv_iload_n hx hb dX1_digitsOf_0 rfl (lv_at hl 0 rfl) ?_
  obtain ⟨r3, S1, h2, hf⟩ := cal_g hf
  refine go_i hH (run_S X hH (rest := []) (c_X1_countOf N S x0 h2) gm_X1_15 rfl hl.1 (rmL_ok (by decide) (by decide)) (Nat.le_of_ble_eq_true rfl) rfl dX1_digitsOf_1) (fun H locs hH => ?_)
  clear h2
  refine lv_istore_n (lv' := [(1, .int r3), (0, .int x0)]) hx hb dX1_digitsOf_4 rfl hl (by decide) rfl (fun ls hl => ?_)
  refine lv_iconst (v := (nI 0)) hx hb dX1_digitsOf_5 (by decide) ?_
  refine lv_topi (fun y4 ex => ?_)
  replace hf := bnd_at ex hf
  clear ex
  refine lv_istore_n (lv' := [(2, .int y4), (1, .int r3), (0, .int x0)]) hx hb dX1_digitsOf_6 rfl hl (by decide) rfl (fun ls hl => ?_)
  refine lv_iconst (v := (nI 0)) hx hb dX1_digitsOf_7 (by decide) ?_
  refine lv_topi (fun y5 ex => ?_)
  replace hf := bnd_at ex hf
  clear ex
  refine lv_istore_n (lv' := [(3, .int y5), (2, .int y4), (1, .int r3), (0, .int x0)]) hx hb dX1_digitsOf_8 rfl hl (by decide) rfl (fun ls hl => ?_)
  exact w_X1_digitsOf_9 X N N S1 x0 r3 y4 y5 hf _ _ hH _ (lv_sub hl [3, 2, 1, 0] rfl)
theorem c_X1_digitsOf {l : Launch} {E : Ev} (N : Nat) (S : St) (x0 : Int32) {r : Int32} {S1 : St} (hf : f_X1_digitsOf N S x0 = some (r, S1)) : Ct l yX1_digitsOf (.code yX1_digitsOf cX1_digitsOf 4 (some .int)) 3 E [.int x0] S (QI E r S1) := by
  refine Ct.of (by decide) (Nat.le_of_ble_eq_true rfl) (fun p e s m below meth c ls X hH hl => ?_)
  exact w_X1_digitsOf_0 X N S x0 hf _ _ hH _ hl
set_option maxRecDepth 100000 in
set_option maxHeartbeats 4000000 in
theorem w_X5_allWithin_3 {p : Program} {l : Launch} {e : Env} {s : State} {m : MethodId} {args : Array Value} {below : List Frame} {meth : Method} {c : Code} {E : Ev} {r : Int32} {S1 : St} (X : GX p s m meth c args cX5_allWithin 6 (some .boolean) RX5 E) (N : Nat) : ∀ (n : Nat) (S : St) (j0 : Nat) (x1 : Int32) (x2 : Int32) (x3 : Int32) (x4 : Int32) (hj0 : j0 < 4), f_X5_allWithin_3 N n S j0 x1 x2 x3 x4 = some (r, S1) → ∀ (H : Heap) (locs : List Loc), HH E S s H locs → ∀ ls : Array Slot, lv_has ls 6 [(0, .ref (bb E (12 + j0))), (1, .int x1), (2, .int x2), (3, .int x3), (4, .int x4)] → W p l e (rmL 1) s m args below meth c H locs 0 0 (MQ below (QI E r S1 s.heap.size) args s 0 0 (AA E s.heap.size)) (F0 m 3 ls []) := by
  have hx := X.1
  have hb := X.2.1
  intro n
  induction n with
  | zero =>
    intro S j0 x1 x2 x3 x4 hj0 hf
    cases hf
  | succ n ih =>
    intro S j0 x1 x2 x3 x4 hj0 hf H locs hH ls hl
    rw [f_X5_allWithin_3] at hf
    refine lv_iload hx hb dX5_allWithin_3 (lv_at hl 4 rfl) ?_
    refine lv_iload_n hx hb dX5_allWithin_5 rfl (lv_at hl 2 rfl) ?_
    refine lv_icmp_ge (tgt := 39) hx hb dX5_allWithin_6 (by decide) (fun c0 => ?_) (fun c0 => ?_)
    · replace hf := ite_t c0 hf
      refine lv_iconst (v := (nI 1)) hx hb dX5_allWithin_39 (by decide) ?_
      exact r_zret X hH (by decide) hf dX5_allWithin_40
    · replace hf := ite_f c0 hf
      refine lv_aload_n hx hb dX5_allWithin_9 rfl (lv_at hl 0 rfl) ?_
      refine fg_X5_15 X hH hj0 dX5_allWithin_10 ?_
      refine lv_iload_n hx hb dX5_allWithin_13 rfl (lv_at hl 1 rfl) ?_
      refine lv_iload hx hb dX5_allWithin_14 (lv_at hl 4 rfl) ?_
      refine lv_iadd hx hb dX5_allWithin_16 ?_
      obtain ⟨g, hf⟩ := ite_g hf
      refine r_iald X hH (a_sh E hj0) g dX5_allWithin_17 ?_
      refine lv_topi (fun y1 ex => ?_)
      replace hf := bnd_at ex hf
      clear ex
      refine lv_istore (lv' := [(5, .int y1), (0, .ref (bb E (12 + j0))), (1, .int x1), (2, .int x2), (3, .int x3), (4, .int x4)]) hx hb dX5_allWithin_18 hl (by decide) rfl (fun ls hl => ?_)
      refine lv_iload hx hb dX5_allWithin_20 (lv_at hl 0 rfl) ?_
      refine lv_if_lt (tgt := 31) hx hb dX5_allWithin_22 (by decide) (fun c0 => ?_) (fun c0 => ?_)
      · replace hf := ite_t c0 hf
        refine lv_iconst (v := (nI 0)) hx hb dX5_allWithin_31 (by decide) ?_
        exact r_zret X hH (by decide) hf dX5_allWithin_32
      · replace hf := ite_f c0 hf
        refine lv_iload hx hb dX5_allWithin_25 (lv_at hl 0 rfl) ?_
        refine lv_iload_n hx hb dX5_allWithin_27 rfl (lv_at hl 4 rfl) ?_
        refine lv_icmp_le (tgt := 33) hx hb dX5_allWithin_28 (by decide) (fun c0 => ?_) (fun c0 => ?_)
        · replace hf := ite_t c0 hf
          obtain ⟨y2, ex, hf⟩ := bnd_go hf
          refine lv_iinc (v := y2) (lv' := [(4, .int y2), (5, .int y1), (0, .ref (bb E (12 + j0))), (1, .int x1), (2, .int x2), (3, .int x3)]) hx hb dX5_allWithin_33 hl (k := 5) rfl (by rw [ex]; rfl) (by decide) rfl (fun ls hl => ?_)
          clear ex
          refine lv_goto (tgt := 3) hx hb dX5_allWithin_36 (by decide) ?_
          exact ih S j0 x1 x2 x3 y2 hj0 hf _ _ hH _ (lv_sub hl [2, 3, 4, 5, 0] rfl)
        · replace hf := ite_f c0 hf
          refine lv_iconst (v := (nI 0)) hx hb dX5_allWithin_31 (by decide) ?_
          exact r_zret X hH (by decide) hf dX5_allWithin_32
set_option maxRecDepth 100000 in
set_option maxHeartbeats 4000000 in
theorem w_X5_allWithin_0 {p : Program} {l : Launch} {e : Env} {s : State} {m : MethodId} {args : Array Value} {below : List Frame} {meth : Method} {c : Code} {E : Ev} {r : Int32} {S1 : St} (X : GX p s m meth c args cX5_allWithin 6 (some .boolean) RX5 E) (N : Nat) : ∀ (S : St) (j0 : Nat) (x1 : Int32) (x2 : Int32) (x3 : Int32) (hj0 : j0 < 4), f_X5_allWithin N S j0 x1 x2 x3 = some (r, S1) → ∀ (H : Heap) (locs : List Loc), HH E S s H locs → ∀ ls : Array Slot, lv_has ls 6 [(0, .ref (bb E (12 + j0))), (1, .int x1), (2, .int x2), (3, .int x3)] → W p l e (rmL 1) s m args below meth c H locs 0 0 (MQ below (QI E r S1 s.heap.size) args s 0 0 (AA E s.heap.size)) (F0 m 0 ls []) := by
  have hx := X.1
  have hb := X.2.1
  intro S j0 x1 x2 x3 hj0 hf H locs hH ls hl
  rw [f_X5_allWithin] at hf
  refine lv_iconst (v := (nI 0)) hx hb dX5_allWithin_0 (by decide) ?_
  refine lv_topi (fun y1 ex => ?_)
  replace hf := bnd_at ex hf
  clear ex
  refine lv_istore (lv' := [(4, .int y1), (0, .ref (bb E (12 + j0))), (1, .int x1), (2, .int x2), (3, .int x3)]) hx hb dX5_allWithin_1 hl (by decide) rfl (fun ls hl => ?_)
  exact w_X5_allWithin_3 X N N S j0 x1 x2 x3 y1 hj0 hf _ _ hH _ (lv_sub hl [1, 2, 3, 4, 0] rfl)
theorem c_X5_allWithin {l : Launch} {E : Ev} (N : Nat) (S : St) (j0 : Nat) (x1 : Int32) (x2 : Int32) (x3 : Int32) (hj0 : j0 < 4) {r : Int32} {S1 : St} (hf : f_X5_allWithin N S j0 x1 x2 x3 = some (r, S1)) : Ct l yX5_allWithin (.code yX5_allWithin cX5_allWithin 6 (some .boolean)) 1 E [.ref (bb E (12 + j0)), .int x1, .int x2, .int x3] S (QI E r S1) := by
  refine Ct.of (by decide) (Nat.le_of_ble_eq_true rfl) (fun p e s m below meth c ls X hH hl => ?_)
  exact w_X5_allWithin_0 X N S j0 x1 x2 x3 hj0 hf _ _ hH _ hl
set_option maxRecDepth 100000 in
set_option maxHeartbeats 4000000 in
theorem w_X5_cut_0 {p : Program} {l : Launch} {e : Env} {s : State} {m : MethodId} {args : Array Value} {below : List Frame} {meth : Method} {c : Code} {E : Ev} {r : Int32} {S1 : St} (X : GX p s m meth c args cX5_cut 2 (some .int) RX5 E) (N : Nat) : ∀ (S : St) (j0 : Nat) (x1 : Int32) (hj0 : j0 < 4), f_X5_cut N S j0 x1 = some (r, S1) → ∀ (H : Heap) (locs : List Loc), HH E S s H locs → ∀ ls : Array Slot, lv_has ls 2 [(0, .ref (bb E (12 + j0))), (1, .int x1)] → W p l e (rmL 1) s m args below meth c H locs 0 0 (MQ below (QI E r S1 s.heap.size) args s 0 0 (AA E s.heap.size)) (F0 m 0 ls []) := by
  have hx := X.1
  have hb := X.2.1
  intro S j0 x1 hj0 hf H locs hH ls hl
  rw [f_X5_cut] at hf
  refine lv_aload_n hx hb dX5_cut_0 rfl (lv_at hl 0 rfl) ?_
  refine fg_X5_9 X hH hj0 dX5_cut_1 ?_
  refine lv_topi (fun y1 ex => ?_)
  replace hf := bnd_at ex hf
  clear ex
  by_cases c0 : y1 = (nI 0)
  · replace hf := ite_t c0 hf
    subst c0
    refine lv_lookup (tgt := 32) hx hb dX5_cut_4 (by decide) rfl (by decide) ?_
    refine lv_iload_n hx hb dX5_cut_32 rfl (lv_at hl 1 rfl) ?_
    refine lv_i2b hx hb dX5_cut_33 rfl ?_
    exact r_iret X hH hf dX5_cut_34
  · replace hf := ite_f c0 hf
    by_cases c1 : y1 = (nI 1)
    · replace hf := ite_t c1 hf
      subst c1
      refine lv_lookup (tgt := 35) hx hb dX5_cut_4 (by decide) rfl (by decide) ?_
      refine lv_iload_n hx hb dX5_cut_35 rfl (lv_at hl 1 rfl) ?_
      refine lv_i2s hx hb dX5_cut_36 rfl ?_
      exact r_iret X hH hf dX5_cut_37
    · replace hf := ite_f c1 hf
      refine lv_lookup (off := 34) (tgt := 38) hx hb dX5_cut_4 (by decide) ((lv_osw (a := 0) (o := 28) (d := 34) (r := [(1, 31)]) c0 rfl).trans ((lv_osw (a := 1) (o := 31) (d := 34) (r := []) c1 rfl).trans rfl)) (by decide) ?_
      refine lv_iload_n hx hb dX5_cut_38 rfl (lv_at hl 1 rfl) ?_
      exact r_iret X hH hf dX5_cut_39
theorem c_X5_cut {l : Launch} {E : Ev} (N : Nat) (S : St) (j0 : Nat) (x1 : Int32) (hj0 : j0 < 4) {r : Int32} {S1 : St} (hf : f_X5_cut N S j0 x1 = some (r, S1)) : Ct l yX5_cut (.code yX5_cut cX5_cut 2 (some .int)) 1 E [.ref (bb E (12 + j0)), .int x1] S (QI E r S1) := by
  refine Ct.of (by decide) (Nat.le_of_ble_eq_true rfl) (fun p e s m below meth c ls X hH hl => ?_)
  exact w_X5_cut_0 X N S j0 x1 hj0 hf _ _ hH _ hl
set_option maxRecDepth 100000 in
set_option maxHeartbeats 4000000 in
theorem w_X5_hasAll_0 {p : Program} {l : Launch} {e : Env} {s : State} {m : MethodId} {args : Array Value} {below : List Frame} {meth : Method} {c : Code} {E : Ev} {r : Int32} {S1 : St} (X : GX p s m meth c args cX5_hasAll 3 (some .boolean) RX5 E) (N : Nat) : ∀ (S : St) (j0 : Nat) (x1 : Int32) (x2 : Int32) (hj0 : j0 < 4), f_X5_hasAll N S j0 x1 x2 = some (r, S1) → ∀ (H : Heap) (locs : List Loc), HH E S s H locs → ∀ ls : Array Slot, lv_has ls 3 [(0, .ref (bb E (12 + j0))), (1, .int x1), (2, .int x2)] → W p l e (rmL 1) s m args below meth c H locs 0 0 (MQ below (QI E r S1 s.heap.size) args s 0 0 (AA E s.heap.size)) (F0 m 0 ls []) := by
  have hx := X.1
  have hb := X.2.1
  intro S j0 x1 x2 hj0 hf H locs hH ls hl
  rw [f_X5_hasAll] at hf
  refine lv_iload_n hx hb dX5_hasAll_0 rfl (lv_at hl 2 rfl) ?_
  refine lv_if_lt (tgt := 30) hx hb dX5_hasAll_1 (by decide) (fun c0 => ?_) (fun c0 => ?_)
  · replace hf := ite_t c0 hf
    refine lv_iconst (v := (nI 0)) hx hb dX5_hasAll_30 (by decide) ?_
    exact r_zret X hH (by decide) hf dX5_hasAll_31
  · replace hf := ite_f c0 hf
    refine lv_iload_n hx hb dX5_hasAll_4 rfl (lv_at hl 1 rfl) ?_
    refine lv_if_lt (tgt := 30) hx hb dX5_hasAll_5 (by decide) (fun c0 => ?_) (fun c0 => ?_)
    · replace hf := ite_t c0 hf
      refine lv_iconst (v := (nI 0)) hx hb dX5_hasAll_30 (by decide) ?_
      exact r_zret X hH (by decide) hf dX5_hasAll_31
    · replace hf := ite_f c0 hf
      refine lv_iload_n hx hb dX5_hasAll_8 rfl (lv_at hl 2 rfl) ?_
      refine lv_aload_n hx hb dX5_hasAll_9 rfl (lv_at hl 0 rfl) ?_
      refine fg_X5_19 X hH hj0 dX5_hasAll_10 ?_
      refine lv_icmp_gt (tgt := 30) hx hb dX5_hasAll_13 (by decide) (fun c0 => ?_) (fun c0 => ?_)
      · replace hf := ite_t c0 hf
        refine lv_iconst (v := (nI 0)) hx hb dX5_hasAll_30 (by decide) ?_
        exact r_zret X hH (by decide) hf dX5_hasAll_31
      · replace hf := ite_f c0 hf
        refine lv_iload_n hx hb dX5_hasAll_16 rfl (lv_at hl 1 rfl) ?_
        refine lv_aload_n hx hb dX5_hasAll_17 rfl (lv_at hl 0 rfl) ?_
        refine fg_X5_19 X hH hj0 dX5_hasAll_18 ?_
        refine lv_iload_n hx hb dX5_hasAll_21 rfl (lv_at hl 2 rfl) ?_
        refine lv_isub hx hb dX5_hasAll_22 ?_
        refine lv_icmp_gt (tgt := 30) hx hb dX5_hasAll_23 (by decide) (fun c0 => ?_) (fun c0 => ?_)
        · replace hf := ite_t c0 hf
          refine lv_iconst (v := (nI 0)) hx hb dX5_hasAll_30 (by decide) ?_
          exact r_zret X hH (by decide) hf dX5_hasAll_31
        · replace hf := ite_f c0 hf
          refine lv_iconst (v := (nI 1)) hx hb dX5_hasAll_26 (by decide) ?_
          refine lv_goto (tgt := 31) hx hb dX5_hasAll_27 (by decide) ?_
          exact r_zret X hH (by decide) hf dX5_hasAll_31
theorem c_X5_hasAll {l : Launch} {E : Ev} (N : Nat) (S : St) (j0 : Nat) (x1 : Int32) (x2 : Int32) (hj0 : j0 < 4) {r : Int32} {S1 : St} (hf : f_X5_hasAll N S j0 x1 x2 = some (r, S1)) : Ct l yX5_hasAll (.code yX5_hasAll cX5_hasAll 3 (some .boolean)) 1 E [.ref (bb E (12 + j0)), .int x1, .int x2] S (QI E r S1) := by
  refine Ct.of (by decide) (Nat.le_of_ble_eq_true rfl) (fun p e s m below meth c ls X hH hl => ?_)
  exact w_X5_hasAll_0 X N S j0 x1 x2 hj0 hf _ _ hH _ hl
set_option maxRecDepth 100000 in
set_option maxHeartbeats 4000000 in
theorem w_X5_faultOf_0 {p : Program} {l : Launch} {e : Env} {s : State} {m : MethodId} {args : Array Value} {below : List Frame} {meth : Method} {c : Code} {E : Ev} {r : Int32} {S1 : St} (X : GX p s m meth c args cX5_faultOf 4 (some .int) RX5 E) (N : Nat) : ∀ (S : St) (j0 : Nat) (x1 : Int32) (x2 : Int32) (x3 : Int32) (hj0 : j0 < 4), f_X5_faultOf N S j0 x1 x2 x3 = some (r, S1) → ∀ (H : Heap) (locs : List Loc), HH E S s H locs → ∀ ls : Array Slot, lv_has ls 4 [(0, .ref (bb E (12 + j0))), (1, .int x1), (2, .int x2), (3, .int x3)] → W p l e (rmL 2) s m args below meth c H locs 0 0 (MQ below (QI E r S1 s.heap.size) args s 0 0 (AA E s.heap.size)) (F0 m 0 ls []) := by
  have hx := X.1
  have hb := X.2.1
  intro S j0 x1 x2 x3 hj0 hf H locs hH ls hl
  rw [f_X5_faultOf] at hf
  refine lv_aload_n hx hb dX5_faultOf_0 rfl (lv_at hl 0 rfl) ?_
  refine fg_X5_9 X hH hj0 dX5_faultOf_1 ?_
  refine lv_iconst (v := (-1 : Int32)) hx hb dX5_faultOf_4 (by decide) ?_
  refine lv_icmp_ne (tgt := 10) hx hb dX5_faultOf_5 (by decide) (fun c0 => ?_) (fun c0 => ?_)
  · replace hf := ite_f c0 hf
    refine lv_aload_n hx hb dX5_faultOf_10 rfl (lv_at hl 0 rfl) ?_
    refine fg_X5_9 X hH hj0 dX5_faultOf_11 ?_
    refine lv_iload_n hx hb dX5_faultOf_14 rfl (lv_at hl 1 rfl) ?_
    refine lv_icmp_eq (tgt := 20) hx hb dX5_faultOf_15 (by decide) (fun c0 => ?_) (fun c0 => ?_)
    · replace hf := ite_t c0 hf
      refine lv_iload_n hx hb dX5_faultOf_20 rfl (lv_at hl 3 rfl) ?_
      refine lv_if_ge (tgt := 26) hx hb dX5_faultOf_21 (by decide) (fun c0 => ?_) (fun c0 => ?_)
      · replace hf := ite_t c0 hf
        refine lv_aload_n hx hb dX5_faultOf_26 rfl (lv_at hl 0 rfl) ?_
        refine lv_iload_n hx hb dX5_faultOf_27 rfl (lv_at hl 2 rfl) ?_
        refine lv_iload_n hx hb dX5_faultOf_28 rfl (lv_at hl 3 rfl) ?_
        obtain ⟨r3, S1, h2, hf⟩ := cal_g hf
        refine go_i hH (run_V X hH (rest := []) (c_X5_hasAll N S j0 x2 x3 hj0 h2) gm_X5_28 (sh54 hj0) (e_sh E hj0 _) rfl rfl hl.1 (rmL_ok (by decide) (by decide)) (Nat.le_of_ble_eq_true rfl) rfl dX5_faultOf_29) (fun H locs hH => ?_)
        clear h2
        refine lv_if_eq (tgt := 39) hx hb dX5_faultOf_32 (by decide) (fun c0 => ?_) (fun c0 => ?_)
        · replace hf := ite_t c0 hf
          refine lv_iconst (v := (nI 3)) hx hb dX5_faultOf_39 (by decide) ?_
          exact r_iret X hH hf dX5_faultOf_40
        · replace hf := ite_f c0 hf
          refine lv_iconst (v := (nI 0)) hx hb dX5_faultOf_35 (by decide) ?_
          refine lv_goto (tgt := 40) hx hb dX5_faultOf_36 (by decide) ?_
          exact r_iret X hH hf dX5_faultOf_40
      · replace hf := ite_f c0 hf
        refine lv_iconst (v := (nI 4)) hx hb dX5_faultOf_24 (by decide) ?_
        exact r_iret X hH hf dX5_faultOf_25
    · replace hf := ite_f c0 hf
      refine lv_iconst (v := (nI 2)) hx hb dX5_faultOf_18 (by decide) ?_
      exact r_iret X hH hf dX5_faultOf_19
  · replace hf := ite_t c0 hf
    refine lv_iconst (v := (nI 1)) hx hb dX5_faultOf_8 (by decide) ?_
    exact r_iret X hH hf dX5_faultOf_9
theorem c_X5_faultOf {l : Launch} {E : Ev} (N : Nat) (S : St) (j0 : Nat) (x1 : Int32) (x2 : Int32) (x3 : Int32) (hj0 : j0 < 4) {r : Int32} {S1 : St} (hf : f_X5_faultOf N S j0 x1 x2 x3 = some (r, S1)) : Ct l yX5_faultOf (.code yX5_faultOf cX5_faultOf 4 (some .int)) 2 E [.ref (bb E (12 + j0)), .int x1, .int x2, .int x3] S (QI E r S1) := by
  refine Ct.of (by decide) (Nat.le_of_ble_eq_true rfl) (fun p e s m below meth c ls X hH hl => ?_)
  exact w_X5_faultOf_0 X N S j0 x1 x2 x3 hj0 hf _ _ hH _ hl
set_option maxRecDepth 100000 in
set_option maxHeartbeats 4000000 in
theorem w_X5_renew_0 {p : Program} {l : Launch} {e : Env} {s : State} {m : MethodId} {args : Array Value} {below : List Frame} {meth : Method} {c : Code} {E : Ev} {r : Unit} {S1 : St} (X : GX p s m meth c args cX5_renew 3 none RX5 E) (N : Nat) : ∀ (S : St) (j0 : Nat) (x1 : Int32) (x2 : Int32) (hj0 : j0 < 4), f_X5_renew N S j0 x1 x2 = some (r, S1) → ∀ (H : Heap) (locs : List Loc), HH E S s H locs → ∀ ls : Array Slot, lv_has ls 3 [(0, .ref (bb E (12 + j0))), (1, .int x1), (2, .int x2)] → W p l e (rmL 2) s m args below meth c H locs 0 0 (MQ below (QV E r S1 s.heap.size) args s 0 0 (AA E s.heap.size)) (F0 m 0 ls []) := by
  have hx := X.1
  have hb := X.2.1
  intro S j0 x1 x2 hj0 hf H locs hH ls hl
  rw [f_X5_renew] at hf
  refine lv_aload_n hx hb dX5_renew_0 rfl (lv_at hl 0 rfl) ?_
  refine lv_iload_n hx hb dX5_renew_1 rfl (lv_at hl 1 rfl) ?_
  refine fp_X5_9 X hH hj0 dX5_renew_2 (fun H locs hH => ?_)
  obtain ⟨S1, ex, hf⟩ := bnd_go hf
  replace hH := HH_eq ex hH
  clear ex
  refine lv_aload_n hx hb dX5_renew_5 rfl (lv_at hl 0 rfl) ?_
  refine lv_iload_n hx hb dX5_renew_6 rfl (lv_at hl 2 rfl) ?_
  refine fp_X5_19 X hH hj0 dX5_renew_7 (fun H locs hH => ?_)
  obtain ⟨S2, ex, hf⟩ := bnd_go hf
  replace hH := HH_eq ex hH
  clear ex
  refine lv_aload_n hx hb dX5_renew_10 rfl (lv_at hl 0 rfl) ?_
  refine fg_X5_15 X hH hj0 dX5_renew_11 ?_
  refine lv_iconst (v := (nI 0)) hx hb dX5_renew_14 (by decide) ?_
  obtain ⟨_, S3, h4, hf⟩ := cal_g hf
  refine go_v hH (run_S X hH (rest := []) (c_J7_fill_53178 N S2 (16 + j0) 60 (nI 0) (a_sh E hj0) h4) gm_X5_22 rfl hl.1 (rmL_ok (by decide) (by decide)) (Nat.le_of_ble_eq_true rfl) rfl dX5_renew_15) (fun H locs hH => ?_)
  clear h4
  exact r_vret X hH hf dX5_renew_18
theorem c_X5_renew {l : Launch} {E : Ev} (N : Nat) (S : St) (j0 : Nat) (x1 : Int32) (x2 : Int32) (hj0 : j0 < 4) {r : Unit} {S1 : St} (hf : f_X5_renew N S j0 x1 x2 = some (r, S1)) : Ct l yX5_renew (.code yX5_renew cX5_renew 3 none) 2 E [.ref (bb E (12 + j0)), .int x1, .int x2] S (QV E r S1) := by
  refine Ct.of (by decide) (Nat.le_of_ble_eq_true rfl) (fun p e s m below meth c ls X hH hl => ?_)
  exact w_X5_renew_0 X N S j0 x1 x2 hj0 hf _ _ hH _ hl
