/-! THE CLAIM OUT OF ONE WALK OF THE LAW'S BODY. Your part is whole_start (and what it stands on); all else here is the same for every law, but numbers. -/
def R_law : String := "MacroKeysLaw"
def lw_P (b : Addr) (xs : List Int32) (args : Array Value) (s : State) : Prop := args = #[.ref b] ∧ s.IntsAt b xs ∧ xs.length ≤ 3072 ∧ (Jvm.Cond.and given_1 narrow_1).before args s = true
def lw_Q (_ : Array Value) (s : State) (o : Outcome) (t : State) : Prop := o = .returned (some (.int 1)) ∧ Framed s o t [] 600000 7302250
def lw_Z (below : List Frame) (a : Array Value) (s : State) : State → Prop := fun t => ∃ o, t.status = .running ∧ Ended t below o ∧ lw_Q a s o t
/-- the law's own end, with 1 on the stack, nothing written that was there before, its room as the claim has it -/
theorem lw_ret {p : Program} {l : Launch} {e : Env} {s : State} {m : MethodId} {below : List Frame} {meth : Method} {c : Code} {b : Nat} (hx : p.tables.exec = Jvm.exec) (hb : c.code = code) (hr : meth.sig.returnType = ret) (hlocks : meth.locks = false) {pc : Nat} {H : Heap} {ls : Array Slot} (hdg : decode code pc = .ok (.ireturn, 1)) : W p l e room_1 s m #[Value.ref b] below meth c H [] 600000 7302250 (lw_Z below #[Value.ref b] s) (F0 m pc ls [.int 1]) := by
  intro T hT X
  obtain ⟨fs, hret, hrun, hended, hW, hframe⟩ := X.leave (v := some (.int 1)) (hlocks := hlocks) (fun h => by rw [hr] at h; cases h)
  have hmeth' : T.vm.method? m = some meth := X.method'
  refine ⟨T.setFrames fs, ?_, .returned (some (.int 1)), hrun, hended, rfl, ⟨_, rfl⟩, hW, hframe⟩
  jvm_step X.here [X.here.top, hx, hb, hdg, hmeth', hr, ret, narrow_b1]
  (try refine ⟨rfl, ?_⟩); (try refine ⟨rfl, ?_⟩)
  first | (intro acts; rw [hret _ acts rfl rfl rfl]) | rw [hret _ _ rfl rfl rfl]
  exact Steps.refl _
/-- what holds at the law's entry: the machine, the code, the tables' words (any of lw_tbl by 'hts w (by decide +kernel)'), the script of L ints xs at the cell b, what the Statement gives of the start (any of its parts by flat_of_before) -/
def lw_At (p : Program) (s : State) (m : MethodId) (meth : Method) (c : Code) (b L : Nat) (xs : Nat → Int32) : Prop :=
  p.tables.exec = Jvm.exec ∧ c.code = code ∧ meth.sig.returnType = ret ∧ c.maxLocals = 4 ∧ s.vm.findClass R_law = some m.cls ∧ (∀ w ∈ lw_tbl, w.before #[Value.ref b] s = true) ∧ va_X b L xs s s.heap ∧ b < s.heap.size ∧ meth.locks = false ∧ (Jvm.Cond.and given_1 narrow_1).before #[Value.ref b] s = true
/-! the law's own rows -/
def LW (E : Ev) (s : State) (bs L : Nat) (xs : Nat → Int32) (cells slots : Nat) : Prop := va_X bs L xs s s.heap ∧ bs < s.heap.size ∧ (∀ k, k < 54 → s.heap.size ≤ bb E k) ∧ cells ≤ 600000 ∧ slots ≤ 7302250
theorem LW_A {E : Ev} {s : State} {bs L : Nat} {xs : Nat → Int32} {cells slots : Nat} (h : LW E s bs L xs cells slots) : ¬ AA E s.heap.size bs := by
  rintro (⟨k, hk, rfl⟩ | z)
  · exact Nat.not_lt.mpr (h.2.2.1 k hk) h.2.1
  · exact Nat.not_lt.mpr z h.2.1
theorem law_room {E : Ev} {s : State} {bs L : Nat} {xs : Nat → Int32} {cells slots k maxL : Nat} (h : LW E s bs L xs cells slots) (hk : k ≤ 1000) (h2 : maxL ≤ 21) : RoomOK room_1 k cells slots maxL := by
  refine ⟨⟨?_, ?_⟩, h.2.2.2.1, h.2.2.2.2⟩
  · show k + 1 ≤ 2048
    omega
  · show 8 + (maxL + 11) + 40 * k ≤ 84000
    omega
theorem law_ret {p : Program} {l : Launch} {e : Env} {s : State} {m : MethodId} {below : List Frame} {meth : Method} {c : Code} {E : Ev} {S S1 : St} {H : Heap} {locs : List Loc} {cells slots bs L pc : Nat} {xs : Nat → Int32} {ls : Array Slot} {v : Int32} (X : GX p s m meth c #[Value.ref bs] cL_law 4 ret RL E) (hH : HH E S s H locs) (h : LW E s bs L xs cells slots) (hf : some (v, S) = some ((1 : Int32), S1)) (hdg : decode cL_law pc = .ok (.ireturn, 1)) : W p l e room_1 s m #[Value.ref bs] below meth c H locs cells slots (lw_Z below #[Value.ref bs] s) (F0 m pc ls [.int v]) := by
  obtain ⟨hx, hb, hml, hown, hts, hlocks, hr, hK, -, -, -⟩ := X
  cases hf
  refine va_forget (fun q hq => ?_) ?_
  · rcases hH.2.2.2 q hq with ⟨k, hk, e1⟩ | z
    · rw [e1]; exact h.2.2.1 k hk
    · exact z
  · exact W.widen (k := 600000) (n := 7302250) h.2.2.2.1 h.2.2.2.2 (lw_ret hx hb hr hlocks hdg)
set_option maxRecDepth 100000 in
set_option maxHeartbeats 4000000 in
theorem w_L_law_1087 {p : Program} {l : Launch} {e : Env} {s : State} {m : MethodId} {below : List Frame} {meth : Method} {c : Code} {E : Ev} {S1 : St} {cells slots bs : Nat} (X : GX p s m meth c #[Value.ref bs] cL_law 4 ret RL E) (N : Nat) (xs : Nat → Int32) (L : Nat) (hW : LW E s bs L xs cells slots) (k18 : St → Int32 → Option (Int32 × St)) (hk18 : ∀ (S : St) (x3 : Int32), k18 S x3 = some ((1 : Int32), S1) → ∀ (H : Heap) (locs : List Loc), HH E S s H locs → ∀ ls : Array Slot, lv_has ls 4 [(0, .ref bs), (1, .ref (bb E 0)), (2, .ref (bb E 32)), (3, .int x3)] → W p l e room_1 s m #[Value.ref bs] below meth c H locs cells slots (lw_Z below #[Value.ref bs] s) (F0 m 18 ls [])) : ∀ (S : St) (x3 : Int32), f_L_law_1087 N xs L k18 S x3 = some ((1 : Int32), S1) → ∀ (H : Heap) (locs : List Loc), HH E S s H locs → ∀ ls : Array Slot, lv_has ls 4 [(0, .ref bs), (1, .ref (bb E 0)), (2, .ref (bb E 32)), (3, .int x3)] → W p l e room_1 s m #[Value.ref bs] below meth c H locs cells slots (lw_Z below #[Value.ref bs] s) (F0 m 1087 ls []) := by
  have hx := X.1
  have hb := X.2.1
  have hX := hW.1
  have hbl := hW.2.1
  have hbA := LW_A hW
  intro S x3 hf H locs hH ls hl
  rw [f_L_law_1087] at hf
  refine lv_aload_n hx hb dL_law_1087 rfl (lv_at hl 1 rfl) ?_
  refine lv_aload_n hx hb dL_law_1088 rfl (lv_at hl 0 rfl) ?_
  refine lv_iload_n hx hb dL_law_1089 rfl (lv_at hl 3 rfl) ?_
  refine lv_iconst (v := (nI 1)) hx hb dL_law_1090 (by decide) ?_
  refine lv_iadd hx hb dL_law_1091 ?_
  obtain ⟨g, hf⟩ := ite_g hf
  refine va_sld hx hb hX hbl hbA hH.2 (inb_in g) dL_law_1092 ?_
  obtain ⟨r3, S1, h2, hf⟩ := cal_g hf
  refine go_i hH (run_V X hH (rest := []) (c_X6_many N S (xs (x3 + (nI 1)).toNatClampNeg) h2) gm_L_137 (by decide) (e_0 E _) rfl rfl hl.1 (law_room hW (by decide) (by decide)) (Nat.le_of_ble_eq_true rfl) rfl dL_law_1093) (fun H locs hH => ?_)
  clear h2
  refine lv_aload_n hx hb dL_law_1096 rfl (lv_at hl 2 rfl) ?_
  refine lv_aload_n hx hb dL_law_1097 rfl (lv_at hl 0 rfl) ?_
  refine lv_iload_n hx hb dL_law_1098 rfl (lv_at hl 3 rfl) ?_
  refine lv_iconst (v := (nI 1)) hx hb dL_law_1099 (by decide) ?_
  refine lv_iadd hx hb dL_law_1100 ?_
  obtain ⟨g, hf⟩ := ite_g hf
  refine va_sld hx hb hX hbl hbA hH.2 (inb_in g) dL_law_1101 ?_
  obtain ⟨r6, S4, h5, hf⟩ := cal_g hf
  refine go_i hH (run_V X hH (rest := [.int r3]) (c_X7_many N S1 (xs (x3 + (nI 1)).toNatClampNeg) h5) gm_L_140 (by decide) (e_32 E _) rfl rfl hl.1 (law_room hW (by decide) (by decide)) (Nat.le_of_ble_eq_true rfl) rfl dL_law_1102) (fun H locs hH => ?_)
  clear h5
  refine lv_icmp_eq (tgt := 1110) hx hb dL_law_1105 (by decide) (fun c0 => ?_) (fun c0 => ?_)
  · replace hf := ite_t c0 hf
    obtain ⟨y7, ex, hf⟩ := bnd_go hf
    refine lv_iinc (v := y7) (lv' := [(3, .int y7), (0, .ref bs), (1, .ref (bb E 0)), (2, .ref (bb E 32))]) hx hb dL_law_1110 hl (k := 3) rfl (by rw [ex]; rfl) (by decide) rfl (fun ls hl => ?_)
    clear ex
    refine lv_goto (tgt := 18) hx hb dL_law_1113 (by decide) ?_
    exact hk18 S4 y7 hf _ _ hH _ (lv_sub hl [1, 2, 3, 0] rfl)
  · replace hf := ite_f c0 hf
    refine lv_iconst (v := (nI 0)) hx hb dL_law_1108 (by decide) ?_
    exact law_ret X hH hW hf dL_law_1109
set_option maxRecDepth 100000 in
set_option maxHeartbeats 4000000 in
theorem w_L_law_1074 {p : Program} {l : Launch} {e : Env} {s : State} {m : MethodId} {below : List Frame} {meth : Method} {c : Code} {E : Ev} {S1 : St} {cells slots bs : Nat} (X : GX p s m meth c #[Value.ref bs] cL_law 4 ret RL E) (N : Nat) (xs : Nat → Int32) (L : Nat) (hW : LW E s bs L xs cells slots) (k18 : St → Int32 → Option (Int32 × St)) (hk18 : ∀ (S : St) (x3 : Int32), k18 S x3 = some ((1 : Int32), S1) → ∀ (H : Heap) (locs : List Loc), HH E S s H locs → ∀ ls : Array Slot, lv_has ls 4 [(0, .ref bs), (1, .ref (bb E 0)), (2, .ref (bb E 32)), (3, .int x3)] → W p l e room_1 s m #[Value.ref bs] below meth c H locs cells slots (lw_Z below #[Value.ref bs] s) (F0 m 18 ls [])) : ∀ (S : St) (x3 : Int32), f_L_law_1074 N xs L k18 S x3 = some ((1 : Int32), S1) → ∀ (H : Heap) (locs : List Loc), HH E S s H locs → ∀ ls : Array Slot, lv_has ls 4 [(0, .ref bs), (1, .ref (bb E 0)), (2, .ref (bb E 32)), (3, .int x3)] → W p l e room_1 s m #[Value.ref bs] below meth c H locs cells slots (lw_Z below #[Value.ref bs] s) (F0 m 1074 ls []) := by
  have hx := X.1
  have hb := X.2.1
  have hX := hW.1
  have hbl := hW.2.1
  have hbA := LW_A hW
  intro S x3 hf H locs hH ls hl
  rw [f_L_law_1074] at hf
  refine lv_aload_n hx hb dL_law_1074 rfl (lv_at hl 1 rfl) ?_
  obtain ⟨r3, S1, h2, hf⟩ := cal_g hf
  refine go_i hH (run_V X hH (rest := []) (c_X6_fault N S h2) gm_L_133 (by decide) (e_0 E _) rfl rfl hl.1 (law_room hW (by decide) (by decide)) (Nat.le_of_ble_eq_true rfl) rfl dL_law_1075) (fun H locs hH => ?_)
  clear h2
  refine lv_aload_n hx hb dL_law_1078 rfl (lv_at hl 2 rfl) ?_
  obtain ⟨r6, S4, h5, hf⟩ := cal_g hf
  refine go_i hH (run_V X hH (rest := [.int r3]) (c_X7_fault N S1 h5) gm_L_136 (by decide) (e_32 E _) rfl rfl hl.1 (law_room hW (by decide) (by decide)) (Nat.le_of_ble_eq_true rfl) rfl dL_law_1079) (fun H locs hH => ?_)
  clear h5
  refine lv_icmp_eq (tgt := 1110) hx hb dL_law_1082 (by decide) (fun c0 => ?_) (fun c0 => ?_)
  · replace hf := ite_t c0 hf
    obtain ⟨y7, ex, hf⟩ := bnd_go hf
    refine lv_iinc (v := y7) (lv' := [(3, .int y7), (0, .ref bs), (1, .ref (bb E 0)), (2, .ref (bb E 32))]) hx hb dL_law_1110 hl (k := 3) rfl (by rw [ex]; rfl) (by decide) rfl (fun ls hl => ?_)
    clear ex
    refine lv_goto (tgt := 18) hx hb dL_law_1113 (by decide) ?_
    exact hk18 S4 y7 hf _ _ hH _ (lv_sub hl [1, 2, 3, 0] rfl)
  · replace hf := ite_f c0 hf
    refine lv_iconst (v := (nI 0)) hx hb dL_law_1085 (by decide) ?_
    exact law_ret X hH hW hf dL_law_1086
set_option maxRecDepth 100000 in
set_option maxHeartbeats 4000000 in
theorem w_L_law_1061 {p : Program} {l : Launch} {e : Env} {s : State} {m : MethodId} {below : List Frame} {meth : Method} {c : Code} {E : Ev} {S1 : St} {cells slots bs : Nat} (X : GX p s m meth c #[Value.ref bs] cL_law 4 ret RL E) (N : Nat) (xs : Nat → Int32) (L : Nat) (hW : LW E s bs L xs cells slots) (k18 : St → Int32 → Option (Int32 × St)) (hk18 : ∀ (S : St) (x3 : Int32), k18 S x3 = some ((1 : Int32), S1) → ∀ (H : Heap) (locs : List Loc), HH E S s H locs → ∀ ls : Array Slot, lv_has ls 4 [(0, .ref bs), (1, .ref (bb E 0)), (2, .ref (bb E 32)), (3, .int x3)] → W p l e room_1 s m #[Value.ref bs] below meth c H locs cells slots (lw_Z below #[Value.ref bs] s) (F0 m 18 ls [])) : ∀ (S : St) (x3 : Int32), f_L_law_1061 N xs L k18 S x3 = some ((1 : Int32), S1) → ∀ (H : Heap) (locs : List Loc), HH E S s H locs → ∀ ls : Array Slot, lv_has ls 4 [(0, .ref bs), (1, .ref (bb E 0)), (2, .ref (bb E 32)), (3, .int x3)] → W p l e room_1 s m #[Value.ref bs] below meth c H locs cells slots (lw_Z below #[Value.ref bs] s) (F0 m 1061 ls []) := by
  have hx := X.1
  have hb := X.2.1
  have hX := hW.1
  have hbl := hW.2.1
  have hbA := LW_A hW
  intro S x3 hf H locs hH ls hl
  rw [f_L_law_1061] at hf
  refine lv_aload_n hx hb dL_law_1061 rfl (lv_at hl 1 rfl) ?_
  obtain ⟨r3, S1, h2, hf⟩ := cal_g hf
  refine go_i hH (run_V X hH (rest := []) (c_X6_trace N S h2) gm_L_129 (by decide) (e_0 E _) rfl rfl hl.1 (law_room hW (by decide) (by decide)) (Nat.le_of_ble_eq_true rfl) rfl dL_law_1062) (fun H locs hH => ?_)
  clear h2
  refine lv_aload_n hx hb dL_law_1065 rfl (lv_at hl 2 rfl) ?_
  obtain ⟨r6, S4, h5, hf⟩ := cal_g hf
  refine go_i hH (run_V X hH (rest := [.int r3]) (c_X7_trace N S1 h5) gm_L_132 (by decide) (e_32 E _) rfl rfl hl.1 (law_room hW (by decide) (by decide)) (Nat.le_of_ble_eq_true rfl) rfl dL_law_1066) (fun H locs hH => ?_)
  clear h5
  refine lv_icmp_eq (tgt := 1110) hx hb dL_law_1069 (by decide) (fun c0 => ?_) (fun c0 => ?_)
  · replace hf := ite_t c0 hf
    obtain ⟨y7, ex, hf⟩ := bnd_go hf
    refine lv_iinc (v := y7) (lv' := [(3, .int y7), (0, .ref bs), (1, .ref (bb E 0)), (2, .ref (bb E 32))]) hx hb dL_law_1110 hl (k := 3) rfl (by rw [ex]; rfl) (by decide) rfl (fun ls hl => ?_)
    clear ex
    refine lv_goto (tgt := 18) hx hb dL_law_1113 (by decide) ?_
    exact hk18 S4 y7 hf _ _ hH _ (lv_sub hl [1, 2, 3, 0] rfl)
  · replace hf := ite_f c0 hf
    refine lv_iconst (v := (nI 0)) hx hb dL_law_1072 (by decide) ?_
    exact law_ret X hH hW hf dL_law_1073
set_option maxRecDepth 100000 in
set_option maxHeartbeats 4000000 in
theorem w_L_law_1028 {p : Program} {l : Launch} {e : Env} {s : State} {m : MethodId} {below : List Frame} {meth : Method} {c : Code} {E : Ev} {S1 : St} {cells slots bs : Nat} (X : GX p s m meth c #[Value.ref bs] cL_law 4 ret RL E) (N : Nat) (xs : Nat → Int32) (L : Nat) (hW : LW E s bs L xs cells slots) (k18 : St → Int32 → Option (Int32 × St)) (hk18 : ∀ (S : St) (x3 : Int32), k18 S x3 = some ((1 : Int32), S1) → ∀ (H : Heap) (locs : List Loc), HH E S s H locs → ∀ ls : Array Slot, lv_has ls 4 [(0, .ref bs), (1, .ref (bb E 0)), (2, .ref (bb E 32)), (3, .int x3)] → W p l e room_1 s m #[Value.ref bs] below meth c H locs cells slots (lw_Z below #[Value.ref bs] s) (F0 m 18 ls [])) : ∀ (S : St) (x3 : Int32), f_L_law_1028 N xs L k18 S x3 = some ((1 : Int32), S1) → ∀ (H : Heap) (locs : List Loc), HH E S s H locs → ∀ ls : Array Slot, lv_has ls 4 [(0, .ref bs), (1, .ref (bb E 0)), (2, .ref (bb E 32)), (3, .int x3)] → W p l e room_1 s m #[Value.ref bs] below meth c H locs cells slots (lw_Z below #[Value.ref bs] s) (F0 m 1028 ls []) := by
  have hx := X.1
  have hb := X.2.1
  have hX := hW.1
  have hbl := hW.2.1
  have hbA := LW_A hW
  intro S x3 hf H locs hH ls hl
  rw [f_L_law_1028] at hf
  refine lv_aload_n hx hb dL_law_1028 rfl (lv_at hl 1 rfl) ?_
  refine lv_aload_n hx hb dL_law_1029 rfl (lv_at hl 0 rfl) ?_
  refine lv_iload_n hx hb dL_law_1030 rfl (lv_at hl 3 rfl) ?_
  refine lv_iconst (v := (nI 1)) hx hb dL_law_1031 (by decide) ?_
  refine lv_iadd hx hb dL_law_1032 ?_
  obtain ⟨g, hf⟩ := ite_g hf
  refine va_sld hx hb hX hbl hbA hH.2 (inb_in g) dL_law_1033 ?_
  refine lv_aload_n hx hb dL_law_1034 rfl (lv_at hl 0 rfl) ?_
  refine lv_iload_n hx hb dL_law_1035 rfl (lv_at hl 3 rfl) ?_
  refine lv_iconst (v := (nI 2)) hx hb dL_law_1036 (by decide) ?_
  refine lv_iadd hx hb dL_law_1037 ?_
  obtain ⟨g, hf⟩ := ite_g hf
  refine va_sld hx hb hX hbl hbA hH.2 (inb_in g) dL_law_1038 ?_
  obtain ⟨r3, S1, h2, hf⟩ := cal_g hf
  refine go_i hH (run_V X hH (rest := []) (c_X6_as N S (xs (x3 + (nI 1)).toNatClampNeg) (xs (x3 + (nI 2)).toNatClampNeg) h2) gm_L_125 (by decide) (e_0 E _) rfl rfl hl.1 (law_room hW (by decide) (by decide)) (Nat.le_of_ble_eq_true rfl) rfl dL_law_1039) (fun H locs hH => ?_)
  clear h2
  refine lv_aload_n hx hb dL_law_1042 rfl (lv_at hl 2 rfl) ?_
  refine lv_aload_n hx hb dL_law_1043 rfl (lv_at hl 0 rfl) ?_
  refine lv_iload_n hx hb dL_law_1044 rfl (lv_at hl 3 rfl) ?_
  refine lv_iconst (v := (nI 1)) hx hb dL_law_1045 (by decide) ?_
  refine lv_iadd hx hb dL_law_1046 ?_
  obtain ⟨g, hf⟩ := ite_g hf
  refine va_sld hx hb hX hbl hbA hH.2 (inb_in g) dL_law_1047 ?_
  refine lv_aload_n hx hb dL_law_1048 rfl (lv_at hl 0 rfl) ?_
  refine lv_iload_n hx hb dL_law_1049 rfl (lv_at hl 3 rfl) ?_
  refine lv_iconst (v := (nI 2)) hx hb dL_law_1050 (by decide) ?_
  refine lv_iadd hx hb dL_law_1051 ?_
  obtain ⟨g, hf⟩ := ite_g hf
  refine va_sld hx hb hX hbl hbA hH.2 (inb_in g) dL_law_1052 ?_
  obtain ⟨r6, S4, h5, hf⟩ := cal_g hf
  refine go_i hH (run_V X hH (rest := [.int r3]) (c_X7_as N S1 (xs (x3 + (nI 1)).toNatClampNeg) (xs (x3 + (nI 2)).toNatClampNeg) h5) gm_L_128 (by decide) (e_32 E _) rfl rfl hl.1 (law_room hW (by decide) (by decide)) (Nat.le_of_ble_eq_true rfl) rfl dL_law_1053) (fun H locs hH => ?_)
  clear h5
  refine lv_icmp_eq (tgt := 1110) hx hb dL_law_1056 (by decide) (fun c0 => ?_) (fun c0 => ?_)
  · replace hf := ite_t c0 hf
    obtain ⟨y7, ex, hf⟩ := bnd_go hf
    refine lv_iinc (v := y7) (lv' := [(3, .int y7), (0, .ref bs), (1, .ref (bb E 0)), (2, .ref (bb E 32))]) hx hb dL_law_1110 hl (k := 3) rfl (by rw [ex]; rfl) (by decide) rfl (fun ls hl => ?_)
    clear ex
    refine lv_goto (tgt := 18) hx hb dL_law_1113 (by decide) ?_
    exact hk18 S4 y7 hf _ _ hH _ (lv_sub hl [1, 2, 3, 0] rfl)
  · replace hf := ite_f c0 hf
    refine lv_iconst (v := (nI 0)) hx hb dL_law_1059 (by decide) ?_
    exact law_ret X hH hW hf dL_law_1060
set_option maxRecDepth 100000 in
set_option maxHeartbeats 4000000 in
theorem w_L_law_1005 {p : Program} {l : Launch} {e : Env} {s : State} {m : MethodId} {below : List Frame} {meth : Method} {c : Code} {E : Ev} {S1 : St} {cells slots bs : Nat} (X : GX p s m meth c #[Value.ref bs] cL_law 4 ret RL E) (N : Nat) (xs : Nat → Int32) (L : Nat) (hW : LW E s bs L xs cells slots) (k18 : St → Int32 → Option (Int32 × St)) (hk18 : ∀ (S : St) (x3 : Int32), k18 S x3 = some ((1 : Int32), S1) → ∀ (H : Heap) (locs : List Loc), HH E S s H locs → ∀ ls : Array Slot, lv_has ls 4 [(0, .ref bs), (1, .ref (bb E 0)), (2, .ref (bb E 32)), (3, .int x3)] → W p l e room_1 s m #[Value.ref bs] below meth c H locs cells slots (lw_Z below #[Value.ref bs] s) (F0 m 18 ls [])) : ∀ (S : St) (x3 : Int32), f_L_law_1005 N xs L k18 S x3 = some ((1 : Int32), S1) → ∀ (H : Heap) (locs : List Loc), HH E S s H locs → ∀ ls : Array Slot, lv_has ls 4 [(0, .ref bs), (1, .ref (bb E 0)), (2, .ref (bb E 32)), (3, .int x3)] → W p l e room_1 s m #[Value.ref bs] below meth c H locs cells slots (lw_Z below #[Value.ref bs] s) (F0 m 1005 ls []) := by
  have hx := X.1
  have hb := X.2.1
  have hX := hW.1
  have hbl := hW.2.1
  have hbA := LW_A hW
  intro S x3 hf H locs hH ls hl
  rw [f_L_law_1005] at hf
  refine lv_aload_n hx hb dL_law_1005 rfl (lv_at hl 1 rfl) ?_
  refine lv_aload_n hx hb dL_law_1006 rfl (lv_at hl 0 rfl) ?_
  refine lv_iload_n hx hb dL_law_1007 rfl (lv_at hl 3 rfl) ?_
  refine lv_iconst (v := (nI 1)) hx hb dL_law_1008 (by decide) ?_
  refine lv_iadd hx hb dL_law_1009 ?_
  obtain ⟨g, hf⟩ := ite_g hf
  refine va_sld hx hb hX hbl hbA hH.2 (inb_in g) dL_law_1010 ?_
  obtain ⟨r3, S1, h2, hf⟩ := cal_g hf
  refine go_i hH (run_V X hH (rest := []) (c_X6_click N S (xs (x3 + (nI 1)).toNatClampNeg) h2) gm_L_121 (by decide) (e_0 E _) rfl rfl hl.1 (law_room hW (by decide) (by decide)) (Nat.le_of_ble_eq_true rfl) rfl dL_law_1011) (fun H locs hH => ?_)
  clear h2
  refine lv_aload_n hx hb dL_law_1014 rfl (lv_at hl 2 rfl) ?_
  refine lv_aload_n hx hb dL_law_1015 rfl (lv_at hl 0 rfl) ?_
  refine lv_iload_n hx hb dL_law_1016 rfl (lv_at hl 3 rfl) ?_
  refine lv_iconst (v := (nI 1)) hx hb dL_law_1017 (by decide) ?_
  refine lv_iadd hx hb dL_law_1018 ?_
  obtain ⟨g, hf⟩ := ite_g hf
  refine va_sld hx hb hX hbl hbA hH.2 (inb_in g) dL_law_1019 ?_
  obtain ⟨r6, S4, h5, hf⟩ := cal_g hf
  refine go_i hH (run_V X hH (rest := [.int r3]) (c_X7_click N S1 (xs (x3 + (nI 1)).toNatClampNeg) h5) gm_L_124 (by decide) (e_32 E _) rfl rfl hl.1 (law_room hW (by decide) (by decide)) (Nat.le_of_ble_eq_true rfl) rfl dL_law_1020) (fun H locs hH => ?_)
  clear h5
  refine lv_icmp_eq (tgt := 1110) hx hb dL_law_1023 (by decide) (fun c0 => ?_) (fun c0 => ?_)
  · replace hf := ite_t c0 hf
    obtain ⟨y7, ex, hf⟩ := bnd_go hf
    refine lv_iinc (v := y7) (lv' := [(3, .int y7), (0, .ref bs), (1, .ref (bb E 0)), (2, .ref (bb E 32))]) hx hb dL_law_1110 hl (k := 3) rfl (by rw [ex]; rfl) (by decide) rfl (fun ls hl => ?_)
    clear ex
    refine lv_goto (tgt := 18) hx hb dL_law_1113 (by decide) ?_
    exact hk18 S4 y7 hf _ _ hH _ (lv_sub hl [1, 2, 3, 0] rfl)
  · replace hf := ite_f c0 hf
    refine lv_iconst (v := (nI 0)) hx hb dL_law_1026 (by decide) ?_
    exact law_ret X hH hW hf dL_law_1027
set_option maxRecDepth 100000 in
set_option maxHeartbeats 4000000 in
theorem w_L_law_982 {p : Program} {l : Launch} {e : Env} {s : State} {m : MethodId} {below : List Frame} {meth : Method} {c : Code} {E : Ev} {S1 : St} {cells slots bs : Nat} (X : GX p s m meth c #[Value.ref bs] cL_law 4 ret RL E) (N : Nat) (xs : Nat → Int32) (L : Nat) (hW : LW E s bs L xs cells slots) (k18 : St → Int32 → Option (Int32 × St)) (hk18 : ∀ (S : St) (x3 : Int32), k18 S x3 = some ((1 : Int32), S1) → ∀ (H : Heap) (locs : List Loc), HH E S s H locs → ∀ ls : Array Slot, lv_has ls 4 [(0, .ref bs), (1, .ref (bb E 0)), (2, .ref (bb E 32)), (3, .int x3)] → W p l e room_1 s m #[Value.ref bs] below meth c H locs cells slots (lw_Z below #[Value.ref bs] s) (F0 m 18 ls [])) : ∀ (S : St) (x3 : Int32), f_L_law_982 N xs L k18 S x3 = some ((1 : Int32), S1) → ∀ (H : Heap) (locs : List Loc), HH E S s H locs → ∀ ls : Array Slot, lv_has ls 4 [(0, .ref bs), (1, .ref (bb E 0)), (2, .ref (bb E 32)), (3, .int x3)] → W p l e room_1 s m #[Value.ref bs] below meth c H locs cells slots (lw_Z below #[Value.ref bs] s) (F0 m 982 ls []) := by
  have hx := X.1
  have hb := X.2.1
  have hX := hW.1
  have hbl := hW.2.1
  have hbA := LW_A hW
  intro S x3 hf H locs hH ls hl
  rw [f_L_law_982] at hf
  refine lv_aload_n hx hb dL_law_982 rfl (lv_at hl 1 rfl) ?_
  refine lv_aload_n hx hb dL_law_983 rfl (lv_at hl 0 rfl) ?_
  refine lv_iload_n hx hb dL_law_984 rfl (lv_at hl 3 rfl) ?_
  refine lv_iconst (v := (nI 1)) hx hb dL_law_985 (by decide) ?_
  refine lv_iadd hx hb dL_law_986 ?_
  obtain ⟨g, hf⟩ := ite_g hf
  refine va_sld hx hb hX hbl hbA hH.2 (inb_in g) dL_law_987 ?_
  obtain ⟨r3, S1, h2, hf⟩ := cal_g hf
  refine go_i hH (run_V X hH (rest := []) (c_X6_tell N S (xs (x3 + (nI 1)).toNatClampNeg) h2) gm_L_117 (by decide) (e_0 E _) rfl rfl hl.1 (law_room hW (by decide) (by decide)) (Nat.le_of_ble_eq_true rfl) rfl dL_law_988) (fun H locs hH => ?_)
  clear h2
  refine lv_aload_n hx hb dL_law_991 rfl (lv_at hl 2 rfl) ?_
  refine lv_aload_n hx hb dL_law_992 rfl (lv_at hl 0 rfl) ?_
  refine lv_iload_n hx hb dL_law_993 rfl (lv_at hl 3 rfl) ?_
  refine lv_iconst (v := (nI 1)) hx hb dL_law_994 (by decide) ?_
  refine lv_iadd hx hb dL_law_995 ?_
  obtain ⟨g, hf⟩ := ite_g hf
  refine va_sld hx hb hX hbl hbA hH.2 (inb_in g) dL_law_996 ?_
  obtain ⟨r6, S4, h5, hf⟩ := cal_g hf
  refine go_i hH (run_V X hH (rest := [.int r3]) (c_X7_tell N S1 (xs (x3 + (nI 1)).toNatClampNeg) h5) gm_L_120 (by decide) (e_32 E _) rfl rfl hl.1 (law_room hW (by decide) (by decide)) (Nat.le_of_ble_eq_true rfl) rfl dL_law_997) (fun H locs hH => ?_)
  clear h5
  refine lv_icmp_eq (tgt := 1110) hx hb dL_law_1000 (by decide) (fun c0 => ?_) (fun c0 => ?_)
  · replace hf := ite_t c0 hf
    obtain ⟨y7, ex, hf⟩ := bnd_go hf
    refine lv_iinc (v := y7) (lv' := [(3, .int y7), (0, .ref bs), (1, .ref (bb E 0)), (2, .ref (bb E 32))]) hx hb dL_law_1110 hl (k := 3) rfl (by rw [ex]; rfl) (by decide) rfl (fun ls hl => ?_)
    clear ex
    refine lv_goto (tgt := 18) hx hb dL_law_1113 (by decide) ?_
    exact hk18 S4 y7 hf _ _ hH _ (lv_sub hl [1, 2, 3, 0] rfl)
  · replace hf := ite_f c0 hf
    refine lv_iconst (v := (nI 0)) hx hb dL_law_1003 (by decide) ?_
    exact law_ret X hH hW hf dL_law_1004
set_option maxRecDepth 100000 in
set_option maxHeartbeats 4000000 in
theorem w_L_law_919 {p : Program} {l : Launch} {e : Env} {s : State} {m : MethodId} {below : List Frame} {meth : Method} {c : Code} {E : Ev} {S1 : St} {cells slots bs : Nat} (X : GX p s m meth c #[Value.ref bs] cL_law 4 ret RL E) (N : Nat) (xs : Nat → Int32) (L : Nat) (hW : LW E s bs L xs cells slots) (k18 : St → Int32 → Option (Int32 × St)) (hk18 : ∀ (S : St) (x3 : Int32), k18 S x3 = some ((1 : Int32), S1) → ∀ (H : Heap) (locs : List Loc), HH E S s H locs → ∀ ls : Array Slot, lv_has ls 4 [(0, .ref bs), (1, .ref (bb E 0)), (2, .ref (bb E 32)), (3, .int x3)] → W p l e room_1 s m #[Value.ref bs] below meth c H locs cells slots (lw_Z below #[Value.ref bs] s) (F0 m 18 ls [])) : ∀ (S : St) (x3 : Int32), f_L_law_919 N xs L k18 S x3 = some ((1 : Int32), S1) → ∀ (H : Heap) (locs : List Loc), HH E S s H locs → ∀ ls : Array Slot, lv_has ls 4 [(0, .ref bs), (1, .ref (bb E 0)), (2, .ref (bb E 32)), (3, .int x3)] → W p l e room_1 s m #[Value.ref bs] below meth c H locs cells slots (lw_Z below #[Value.ref bs] s) (F0 m 919 ls []) := by
  have hx := X.1
  have hb := X.2.1
  have hX := hW.1
  have hbl := hW.2.1
  have hbA := LW_A hW
  intro S x3 hf H locs hH ls hl
  rw [f_L_law_919] at hf
  refine lv_aload_n hx hb dL_law_919 rfl (lv_at hl 1 rfl) ?_
  refine lv_aload_n hx hb dL_law_920 rfl (lv_at hl 0 rfl) ?_
  refine lv_iload_n hx hb dL_law_921 rfl (lv_at hl 3 rfl) ?_
  refine lv_iconst (v := (nI 1)) hx hb dL_law_922 (by decide) ?_
  refine lv_iadd hx hb dL_law_923 ?_
  obtain ⟨g, hf⟩ := ite_g hf
  refine va_sld hx hb hX hbl hbA hH.2 (inb_in g) dL_law_924 ?_
  refine lv_aload_n hx hb dL_law_925 rfl (lv_at hl 0 rfl) ?_
  refine lv_iload_n hx hb dL_law_926 rfl (lv_at hl 3 rfl) ?_
  refine lv_iconst (v := (nI 2)) hx hb dL_law_927 (by decide) ?_
  refine lv_iadd hx hb dL_law_928 ?_
  obtain ⟨g, hf⟩ := ite_g hf
  refine va_sld hx hb hX hbl hbA hH.2 (inb_in g) dL_law_929 ?_
  refine lv_aload_n hx hb dL_law_930 rfl (lv_at hl 0 rfl) ?_
  refine lv_iload_n hx hb dL_law_931 rfl (lv_at hl 3 rfl) ?_
  refine lv_iconst (v := (nI 3)) hx hb dL_law_932 (by decide) ?_
  refine lv_iadd hx hb dL_law_933 ?_
  obtain ⟨g, hf⟩ := ite_g hf
  refine va_sld hx hb hX hbl hbA hH.2 (inb_in g) dL_law_934 ?_
  refine lv_aload_n hx hb dL_law_935 rfl (lv_at hl 0 rfl) ?_
  refine lv_iload_n hx hb dL_law_936 rfl (lv_at hl 3 rfl) ?_
  refine lv_iconst (v := (nI 4)) hx hb dL_law_937 (by decide) ?_
  refine lv_iadd hx hb dL_law_938 ?_
  obtain ⟨g, hf⟩ := ite_g hf
  refine va_sld hx hb hX hbl hbA hH.2 (inb_in g) dL_law_939 ?_
  refine lv_aload_n hx hb dL_law_940 rfl (lv_at hl 0 rfl) ?_
  refine lv_iload_n hx hb dL_law_941 rfl (lv_at hl 3 rfl) ?_
  refine lv_iconst (v := (nI 5)) hx hb dL_law_942 (by decide) ?_
  refine lv_iadd hx hb dL_law_943 ?_
  obtain ⟨g, hf⟩ := ite_g hf
  refine va_sld hx hb hX hbl hbA hH.2 (inb_in g) dL_law_944 ?_
  obtain ⟨r3, S1, h2, hf⟩ := cal_g hf
  refine go_i hH (run_V X hH (rest := []) (c_X6_copy N S (xs (x3 + (nI 1)).toNatClampNeg) (xs (x3 + (nI 2)).toNatClampNeg) (xs (x3 + (nI 3)).toNatClampNeg) (xs (x3 + (nI 4)).toNatClampNeg) (xs (x3 + (nI 5)).toNatClampNeg) h2) gm_L_113 (by decide) (e_0 E _) rfl rfl hl.1 (law_room hW (by decide) (by decide)) (Nat.le_of_ble_eq_true rfl) rfl dL_law_945) (fun H locs hH => ?_)
  clear h2
  refine lv_aload_n hx hb dL_law_948 rfl (lv_at hl 2 rfl) ?_
  refine lv_aload_n hx hb dL_law_949 rfl (lv_at hl 0 rfl) ?_
  refine lv_iload_n hx hb dL_law_950 rfl (lv_at hl 3 rfl) ?_
  refine lv_iconst (v := (nI 1)) hx hb dL_law_951 (by decide) ?_
  refine lv_iadd hx hb dL_law_952 ?_
  obtain ⟨g, hf⟩ := ite_g hf
  refine va_sld hx hb hX hbl hbA hH.2 (inb_in g) dL_law_953 ?_
  refine lv_aload_n hx hb dL_law_954 rfl (lv_at hl 0 rfl) ?_
  refine lv_iload_n hx hb dL_law_955 rfl (lv_at hl 3 rfl) ?_
  refine lv_iconst (v := (nI 2)) hx hb dL_law_956 (by decide) ?_
  refine lv_iadd hx hb dL_law_957 ?_
  obtain ⟨g, hf⟩ := ite_g hf
  refine va_sld hx hb hX hbl hbA hH.2 (inb_in g) dL_law_958 ?_
  refine lv_aload_n hx hb dL_law_959 rfl (lv_at hl 0 rfl) ?_
  refine lv_iload_n hx hb dL_law_960 rfl (lv_at hl 3 rfl) ?_
  refine lv_iconst (v := (nI 3)) hx hb dL_law_961 (by decide) ?_
  refine lv_iadd hx hb dL_law_962 ?_
  obtain ⟨g, hf⟩ := ite_g hf
  refine va_sld hx hb hX hbl hbA hH.2 (inb_in g) dL_law_963 ?_
  refine lv_aload_n hx hb dL_law_964 rfl (lv_at hl 0 rfl) ?_
  refine lv_iload_n hx hb dL_law_965 rfl (lv_at hl 3 rfl) ?_
  refine lv_iconst (v := (nI 4)) hx hb dL_law_966 (by decide) ?_
  refine lv_iadd hx hb dL_law_967 ?_
  obtain ⟨g, hf⟩ := ite_g hf
  refine va_sld hx hb hX hbl hbA hH.2 (inb_in g) dL_law_968 ?_
  refine lv_aload_n hx hb dL_law_969 rfl (lv_at hl 0 rfl) ?_
  refine lv_iload_n hx hb dL_law_970 rfl (lv_at hl 3 rfl) ?_
  refine lv_iconst (v := (nI 5)) hx hb dL_law_971 (by decide) ?_
  refine lv_iadd hx hb dL_law_972 ?_
  obtain ⟨g, hf⟩ := ite_g hf
  refine va_sld hx hb hX hbl hbA hH.2 (inb_in g) dL_law_973 ?_
  obtain ⟨r6, S4, h5, hf⟩ := cal_g hf
  refine go_i hH (run_V X hH (rest := [.int r3]) (c_X7_copy N S1 (xs (x3 + (nI 1)).toNatClampNeg) (xs (x3 + (nI 2)).toNatClampNeg) (xs (x3 + (nI 3)).toNatClampNeg) (xs (x3 + (nI 4)).toNatClampNeg) (xs (x3 + (nI 5)).toNatClampNeg) h5) gm_L_116 (by decide) (e_32 E _) rfl rfl hl.1 (law_room hW (by decide) (by decide)) (Nat.le_of_ble_eq_true rfl) rfl dL_law_974) (fun H locs hH => ?_)
  clear h5
  refine lv_icmp_eq (tgt := 1110) hx hb dL_law_977 (by decide) (fun c0 => ?_) (fun c0 => ?_)
  · replace hf := ite_t c0 hf
    obtain ⟨y7, ex, hf⟩ := bnd_go hf
    refine lv_iinc (v := y7) (lv' := [(3, .int y7), (0, .ref bs), (1, .ref (bb E 0)), (2, .ref (bb E 32))]) hx hb dL_law_1110 hl (k := 3) rfl (by rw [ex]; rfl) (by decide) rfl (fun ls hl => ?_)
    clear ex
    refine lv_goto (tgt := 18) hx hb dL_law_1113 (by decide) ?_
    exact hk18 S4 y7 hf _ _ hH _ (lv_sub hl [1, 2, 3, 0] rfl)
  · replace hf := ite_f c0 hf
    refine lv_iconst (v := (nI 0)) hx hb dL_law_980 (by decide) ?_
    exact law_ret X hH hW hf dL_law_981
set_option maxRecDepth 100000 in
set_option maxHeartbeats 4000000 in
theorem w_L_law_875 {p : Program} {l : Launch} {e : Env} {s : State} {m : MethodId} {below : List Frame} {meth : Method} {c : Code} {E : Ev} {S1 : St} {cells slots bs : Nat} (X : GX p s m meth c #[Value.ref bs] cL_law 4 ret RL E) (N : Nat) (xs : Nat → Int32) (L : Nat) (hW : LW E s bs L xs cells slots) (k18 : St → Int32 → Option (Int32 × St)) (hk18 : ∀ (S : St) (x3 : Int32), k18 S x3 = some ((1 : Int32), S1) → ∀ (H : Heap) (locs : List Loc), HH E S s H locs → ∀ ls : Array Slot, lv_has ls 4 [(0, .ref bs), (1, .ref (bb E 0)), (2, .ref (bb E 32)), (3, .int x3)] → W p l e room_1 s m #[Value.ref bs] below meth c H locs cells slots (lw_Z below #[Value.ref bs] s) (F0 m 18 ls [])) : ∀ (S : St) (x3 : Int32), f_L_law_875 N xs L k18 S x3 = some ((1 : Int32), S1) → ∀ (H : Heap) (locs : List Loc), HH E S s H locs → ∀ ls : Array Slot, lv_has ls 4 [(0, .ref bs), (1, .ref (bb E 0)), (2, .ref (bb E 32)), (3, .int x3)] → W p l e room_1 s m #[Value.ref bs] below meth c H locs cells slots (lw_Z below #[Value.ref bs] s) (F0 m 875 ls []) := by
  have hx := X.1
  have hb := X.2.1
  have hX := hW.1
  have hbl := hW.2.1
  have hbA := LW_A hW
  intro S x3 hf H locs hH ls hl
  rw [f_L_law_875] at hf
  refine lv_aload_n hx hb dL_law_875 rfl (lv_at hl 1 rfl) ?_
  refine lv_aload_n hx hb dL_law_876 rfl (lv_at hl 0 rfl) ?_
  refine lv_iload_n hx hb dL_law_877 rfl (lv_at hl 3 rfl) ?_
  refine lv_iconst (v := (nI 1)) hx hb dL_law_878 (by decide) ?_
  refine lv_iadd hx hb dL_law_879 ?_
  obtain ⟨g, hf⟩ := ite_g hf
  refine va_sld hx hb hX hbl hbA hH.2 (inb_in g) dL_law_880 ?_
  refine lv_aload_n hx hb dL_law_881 rfl (lv_at hl 0 rfl) ?_
  refine lv_iload_n hx hb dL_law_882 rfl (lv_at hl 3 rfl) ?_
  refine lv_iconst (v := (nI 2)) hx hb dL_law_883 (by decide) ?_
  refine lv_iadd hx hb dL_law_884 ?_
  obtain ⟨g, hf⟩ := ite_g hf
  refine va_sld hx hb hX hbl hbA hH.2 (inb_in g) dL_law_885 ?_
  refine lv_aload_n hx hb dL_law_886 rfl (lv_at hl 0 rfl) ?_
  refine lv_iload_n hx hb dL_law_887 rfl (lv_at hl 3 rfl) ?_
  refine lv_iconst (v := (nI 3)) hx hb dL_law_888 (by decide) ?_
  refine lv_iadd hx hb dL_law_889 ?_
  obtain ⟨g, hf⟩ := ite_g hf
  refine va_sld hx hb hX hbl hbA hH.2 (inb_in g) dL_law_890 ?_
  obtain ⟨r3, S1, h2, hf⟩ := cal_g hf
  refine go_l hH (run_V X hH (rest := []) (c_X6_cell N S (xs (x3 + (nI 1)).toNatClampNeg) (xs (x3 + (nI 2)).toNatClampNeg) (xs (x3 + (nI 3)).toNatClampNeg) h2) gm_L_108 (by decide) (e_0 E _) rfl rfl hl.1 (law_room hW (by decide) (by decide)) (Nat.le_of_ble_eq_true rfl) rfl dL_law_891) (fun H locs hH => ?_)
  clear h2
  refine lv_aload_n hx hb dL_law_894 rfl (lv_at hl 2 rfl) ?_
  refine lv_aload_n hx hb dL_law_895 rfl (lv_at hl 0 rfl) ?_
  refine lv_iload_n hx hb dL_law_896 rfl (lv_at hl 3 rfl) ?_
  refine lv_iconst (v := (nI 1)) hx hb dL_law_897 (by decide) ?_
  refine lv_iadd hx hb dL_law_898 ?_
  obtain ⟨g, hf⟩ := ite_g hf
  refine va_sld hx hb hX hbl hbA hH.2 (inb_in g) dL_law_899 ?_
  refine lv_aload_n hx hb dL_law_900 rfl (lv_at hl 0 rfl) ?_
  refine lv_iload_n hx hb dL_law_901 rfl (lv_at hl 3 rfl) ?_
  refine lv_iconst (v := (nI 2)) hx hb dL_law_902 (by decide) ?_
  refine lv_iadd hx hb dL_law_903 ?_
  obtain ⟨g, hf⟩ := ite_g hf
  refine va_sld hx hb hX hbl hbA hH.2 (inb_in g) dL_law_904 ?_
  refine lv_aload_n hx hb dL_law_905 rfl (lv_at hl 0 rfl) ?_
  refine lv_iload_n hx hb dL_law_906 rfl (lv_at hl 3 rfl) ?_
  refine lv_iconst (v := (nI 3)) hx hb dL_law_907 (by decide) ?_
  refine lv_iadd hx hb dL_law_908 ?_
  obtain ⟨g, hf⟩ := ite_g hf
  refine va_sld hx hb hX hbl hbA hH.2 (inb_in g) dL_law_909 ?_
  obtain ⟨r6, S4, h5, hf⟩ := cal_g hf
  refine go_l hH (run_V X hH (rest := [.long r3]) (c_X7_cell N S1 (xs (x3 + (nI 1)).toNatClampNeg) (xs (x3 + (nI 2)).toNatClampNeg) (xs (x3 + (nI 3)).toNatClampNeg) h5) gm_L_112 (by decide) (e_32 E _) rfl rfl hl.1 (law_room hW (by decide) (by decide)) (Nat.le_of_ble_eq_true rfl) rfl dL_law_910) (fun H locs hH => ?_)
  clear h5
  refine W.lcmp hx hb dL_law_913 ?_
  refine lv_if_eq (tgt := 1110) hx hb dL_law_914 (by decide) (fun c0 => ?_) (fun c0 => ?_)
  · replace hf := ite_t c0 hf
    obtain ⟨y7, ex, hf⟩ := bnd_go hf
    refine lv_iinc (v := y7) (lv' := [(3, .int y7), (0, .ref bs), (1, .ref (bb E 0)), (2, .ref (bb E 32))]) hx hb dL_law_1110 hl (k := 3) rfl (by rw [ex]; rfl) (by decide) rfl (fun ls hl => ?_)
    clear ex
    refine lv_goto (tgt := 18) hx hb dL_law_1113 (by decide) ?_
    exact hk18 S4 y7 hf _ _ hH _ (lv_sub hl [1, 2, 3, 0] rfl)
  · replace hf := ite_f c0 hf
    refine lv_iconst (v := (nI 0)) hx hb dL_law_917 (by decide) ?_
    exact law_ret X hH hW hf dL_law_918
set_option maxRecDepth 100000 in
set_option maxHeartbeats 4000000 in
theorem w_L_law_832 {p : Program} {l : Launch} {e : Env} {s : State} {m : MethodId} {below : List Frame} {meth : Method} {c : Code} {E : Ev} {S1 : St} {cells slots bs : Nat} (X : GX p s m meth c #[Value.ref bs] cL_law 4 ret RL E) (N : Nat) (xs : Nat → Int32) (L : Nat) (hW : LW E s bs L xs cells slots) (k18 : St → Int32 → Option (Int32 × St)) (hk18 : ∀ (S : St) (x3 : Int32), k18 S x3 = some ((1 : Int32), S1) → ∀ (H : Heap) (locs : List Loc), HH E S s H locs → ∀ ls : Array Slot, lv_has ls 4 [(0, .ref bs), (1, .ref (bb E 0)), (2, .ref (bb E 32)), (3, .int x3)] → W p l e room_1 s m #[Value.ref bs] below meth c H locs cells slots (lw_Z below #[Value.ref bs] s) (F0 m 18 ls [])) : ∀ (S : St) (x3 : Int32), f_L_law_832 N xs L k18 S x3 = some ((1 : Int32), S1) → ∀ (H : Heap) (locs : List Loc), HH E S s H locs → ∀ ls : Array Slot, lv_has ls 4 [(0, .ref bs), (1, .ref (bb E 0)), (2, .ref (bb E 32)), (3, .int x3)] → W p l e room_1 s m #[Value.ref bs] below meth c H locs cells slots (lw_Z below #[Value.ref bs] s) (F0 m 832 ls []) := by
  have hx := X.1
  have hb := X.2.1
  have hX := hW.1
  have hbl := hW.2.1
  have hbA := LW_A hW
  intro S x3 hf H locs hH ls hl
  rw [f_L_law_832] at hf
  refine lv_aload_n hx hb dL_law_832 rfl (lv_at hl 1 rfl) ?_
  refine lv_aload_n hx hb dL_law_833 rfl (lv_at hl 0 rfl) ?_
  refine lv_iload_n hx hb dL_law_834 rfl (lv_at hl 3 rfl) ?_
  refine lv_iconst (v := (nI 1)) hx hb dL_law_835 (by decide) ?_
  refine lv_iadd hx hb dL_law_836 ?_
  obtain ⟨g, hf⟩ := ite_g hf
  refine va_sld hx hb hX hbl hbA hH.2 (inb_in g) dL_law_837 ?_
  refine lv_aload_n hx hb dL_law_838 rfl (lv_at hl 0 rfl) ?_
  refine lv_iload_n hx hb dL_law_839 rfl (lv_at hl 3 rfl) ?_
  refine lv_iconst (v := (nI 2)) hx hb dL_law_840 (by decide) ?_
  refine lv_iadd hx hb dL_law_841 ?_
  obtain ⟨g, hf⟩ := ite_g hf
  refine va_sld hx hb hX hbl hbA hH.2 (inb_in g) dL_law_842 ?_
  refine lv_aload_n hx hb dL_law_843 rfl (lv_at hl 0 rfl) ?_
  refine lv_iload_n hx hb dL_law_844 rfl (lv_at hl 3 rfl) ?_
  refine lv_iconst (v := (nI 3)) hx hb dL_law_845 (by decide) ?_
  refine lv_iadd hx hb dL_law_846 ?_
  obtain ⟨g, hf⟩ := ite_g hf
  refine va_sld hx hb hX hbl hbA hH.2 (inb_in g) dL_law_847 ?_
  obtain ⟨r3, S1, h2, hf⟩ := cal_g hf
  refine go_i hH (run_V X hH (rest := []) (c_X6_put N S (xs (x3 + (nI 1)).toNatClampNeg) (xs (x3 + (nI 2)).toNatClampNeg) (xs (x3 + (nI 3)).toNatClampNeg) h2) gm_L_104 (by decide) (e_0 E _) rfl rfl hl.1 (law_room hW (by decide) (by decide)) (Nat.le_of_ble_eq_true rfl) rfl dL_law_848) (fun H locs hH => ?_)
  clear h2
  refine lv_aload_n hx hb dL_law_851 rfl (lv_at hl 2 rfl) ?_
  refine lv_aload_n hx hb dL_law_852 rfl (lv_at hl 0 rfl) ?_
  refine lv_iload_n hx hb dL_law_853 rfl (lv_at hl 3 rfl) ?_
  refine lv_iconst (v := (nI 1)) hx hb dL_law_854 (by decide) ?_
  refine lv_iadd hx hb dL_law_855 ?_
  obtain ⟨g, hf⟩ := ite_g hf
  refine va_sld hx hb hX hbl hbA hH.2 (inb_in g) dL_law_856 ?_
  refine lv_aload_n hx hb dL_law_857 rfl (lv_at hl 0 rfl) ?_
  refine lv_iload_n hx hb dL_law_858 rfl (lv_at hl 3 rfl) ?_
  refine lv_iconst (v := (nI 2)) hx hb dL_law_859 (by decide) ?_
  refine lv_iadd hx hb dL_law_860 ?_
  obtain ⟨g, hf⟩ := ite_g hf
  refine va_sld hx hb hX hbl hbA hH.2 (inb_in g) dL_law_861 ?_
  refine lv_aload_n hx hb dL_law_862 rfl (lv_at hl 0 rfl) ?_
  refine lv_iload_n hx hb dL_law_863 rfl (lv_at hl 3 rfl) ?_
  refine lv_iconst (v := (nI 3)) hx hb dL_law_864 (by decide) ?_
  refine lv_iadd hx hb dL_law_865 ?_
  obtain ⟨g, hf⟩ := ite_g hf
  refine va_sld hx hb hX hbl hbA hH.2 (inb_in g) dL_law_866 ?_
  obtain ⟨r6, S4, h5, hf⟩ := cal_g hf
  refine go_i hH (run_V X hH (rest := [.int r3]) (c_X7_put N S1 (xs (x3 + (nI 1)).toNatClampNeg) (xs (x3 + (nI 2)).toNatClampNeg) (xs (x3 + (nI 3)).toNatClampNeg) h5) gm_L_107 (by decide) (e_32 E _) rfl rfl hl.1 (law_room hW (by decide) (by decide)) (Nat.le_of_ble_eq_true rfl) rfl dL_law_867) (fun H locs hH => ?_)
  clear h5
  refine lv_icmp_eq (tgt := 1110) hx hb dL_law_870 (by decide) (fun c0 => ?_) (fun c0 => ?_)
  · replace hf := ite_t c0 hf
    obtain ⟨y7, ex, hf⟩ := bnd_go hf
    refine lv_iinc (v := y7) (lv' := [(3, .int y7), (0, .ref bs), (1, .ref (bb E 0)), (2, .ref (bb E 32))]) hx hb dL_law_1110 hl (k := 3) rfl (by rw [ex]; rfl) (by decide) rfl (fun ls hl => ?_)
    clear ex
    refine lv_goto (tgt := 18) hx hb dL_law_1113 (by decide) ?_
    exact hk18 S4 y7 hf _ _ hH _ (lv_sub hl [1, 2, 3, 0] rfl)
  · replace hf := ite_f c0 hf
    refine lv_iconst (v := (nI 0)) hx hb dL_law_873 (by decide) ?_
    exact law_ret X hH hW hf dL_law_874
set_option maxRecDepth 100000 in
set_option maxHeartbeats 4000000 in
theorem w_L_law_809 {p : Program} {l : Launch} {e : Env} {s : State} {m : MethodId} {below : List Frame} {meth : Method} {c : Code} {E : Ev} {S1 : St} {cells slots bs : Nat} (X : GX p s m meth c #[Value.ref bs] cL_law 4 ret RL E) (N : Nat) (xs : Nat → Int32) (L : Nat) (hW : LW E s bs L xs cells slots) (k18 : St → Int32 → Option (Int32 × St)) (hk18 : ∀ (S : St) (x3 : Int32), k18 S x3 = some ((1 : Int32), S1) → ∀ (H : Heap) (locs : List Loc), HH E S s H locs → ∀ ls : Array Slot, lv_has ls 4 [(0, .ref bs), (1, .ref (bb E 0)), (2, .ref (bb E 32)), (3, .int x3)] → W p l e room_1 s m #[Value.ref bs] below meth c H locs cells slots (lw_Z below #[Value.ref bs] s) (F0 m 18 ls [])) : ∀ (S : St) (x3 : Int32), f_L_law_809 N xs L k18 S x3 = some ((1 : Int32), S1) → ∀ (H : Heap) (locs : List Loc), HH E S s H locs → ∀ ls : Array Slot, lv_has ls 4 [(0, .ref bs), (1, .ref (bb E 0)), (2, .ref (bb E 32)), (3, .int x3)] → W p l e room_1 s m #[Value.ref bs] below meth c H locs cells slots (lw_Z below #[Value.ref bs] s) (F0 m 809 ls []) := by
  have hx := X.1
  have hb := X.2.1
  have hX := hW.1
  have hbl := hW.2.1
  have hbA := LW_A hW
  intro S x3 hf H locs hH ls hl
  rw [f_L_law_809] at hf
  refine lv_aload_n hx hb dL_law_809 rfl (lv_at hl 1 rfl) ?_
  refine lv_aload_n hx hb dL_law_810 rfl (lv_at hl 0 rfl) ?_
  refine lv_iload_n hx hb dL_law_811 rfl (lv_at hl 3 rfl) ?_
  refine lv_iconst (v := (nI 1)) hx hb dL_law_812 (by decide) ?_
  refine lv_iadd hx hb dL_law_813 ?_
  obtain ⟨g, hf⟩ := ite_g hf
  refine va_sld hx hb hX hbl hbA hH.2 (inb_in g) dL_law_814 ?_
  obtain ⟨r3, S1, h2, hf⟩ := cal_g hf
  refine go_i hH (run_V X hH (rest := []) (c_X6_lose N S (xs (x3 + (nI 1)).toNatClampNeg) h2) gm_L_100 (by decide) (e_0 E _) rfl rfl hl.1 (law_room hW (by decide) (by decide)) (Nat.le_of_ble_eq_true rfl) rfl dL_law_815) (fun H locs hH => ?_)
  clear h2
  refine lv_aload_n hx hb dL_law_818 rfl (lv_at hl 2 rfl) ?_
  refine lv_aload_n hx hb dL_law_819 rfl (lv_at hl 0 rfl) ?_
  refine lv_iload_n hx hb dL_law_820 rfl (lv_at hl 3 rfl) ?_
  refine lv_iconst (v := (nI 1)) hx hb dL_law_821 (by decide) ?_
  refine lv_iadd hx hb dL_law_822 ?_
  obtain ⟨g, hf⟩ := ite_g hf
  refine va_sld hx hb hX hbl hbA hH.2 (inb_in g) dL_law_823 ?_
  obtain ⟨r6, S4, h5, hf⟩ := cal_g hf
  refine go_i hH (run_V X hH (rest := [.int r3]) (c_X7_lose N S1 (xs (x3 + (nI 1)).toNatClampNeg) h5) gm_L_103 (by decide) (e_32 E _) rfl rfl hl.1 (law_room hW (by decide) (by decide)) (Nat.le_of_ble_eq_true rfl) rfl dL_law_824) (fun H locs hH => ?_)
  clear h5
  refine lv_icmp_eq (tgt := 1110) hx hb dL_law_827 (by decide) (fun c0 => ?_) (fun c0 => ?_)
  · replace hf := ite_t c0 hf
    obtain ⟨y7, ex, hf⟩ := bnd_go hf
    refine lv_iinc (v := y7) (lv' := [(3, .int y7), (0, .ref bs), (1, .ref (bb E 0)), (2, .ref (bb E 32))]) hx hb dL_law_1110 hl (k := 3) rfl (by rw [ex]; rfl) (by decide) rfl (fun ls hl => ?_)
    clear ex
    refine lv_goto (tgt := 18) hx hb dL_law_1113 (by decide) ?_
    exact hk18 S4 y7 hf _ _ hH _ (lv_sub hl [1, 2, 3, 0] rfl)
  · replace hf := ite_f c0 hf
    refine lv_iconst (v := (nI 0)) hx hb dL_law_830 (by decide) ?_
    exact law_ret X hH hW hf dL_law_831
set_option maxRecDepth 100000 in
set_option maxHeartbeats 4000000 in
theorem w_L_law_766 {p : Program} {l : Launch} {e : Env} {s : State} {m : MethodId} {below : List Frame} {meth : Method} {c : Code} {E : Ev} {S1 : St} {cells slots bs : Nat} (X : GX p s m meth c #[Value.ref bs] cL_law 4 ret RL E) (N : Nat) (xs : Nat → Int32) (L : Nat) (hW : LW E s bs L xs cells slots) (k18 : St → Int32 → Option (Int32 × St)) (hk18 : ∀ (S : St) (x3 : Int32), k18 S x3 = some ((1 : Int32), S1) → ∀ (H : Heap) (locs : List Loc), HH E S s H locs → ∀ ls : Array Slot, lv_has ls 4 [(0, .ref bs), (1, .ref (bb E 0)), (2, .ref (bb E 32)), (3, .int x3)] → W p l e room_1 s m #[Value.ref bs] below meth c H locs cells slots (lw_Z below #[Value.ref bs] s) (F0 m 18 ls [])) : ∀ (S : St) (x3 : Int32), f_L_law_766 N xs L k18 S x3 = some ((1 : Int32), S1) → ∀ (H : Heap) (locs : List Loc), HH E S s H locs → ∀ ls : Array Slot, lv_has ls 4 [(0, .ref bs), (1, .ref (bb E 0)), (2, .ref (bb E 32)), (3, .int x3)] → W p l e room_1 s m #[Value.ref bs] below meth c H locs cells slots (lw_Z below #[Value.ref bs] s) (F0 m 766 ls []) := by
  have hx := X.1
  have hb := X.2.1
  have hX := hW.1
  have hbl := hW.2.1
  have hbA := LW_A hW
  intro S x3 hf H locs hH ls hl
  rw [f_L_law_766] at hf
  refine lv_aload_n hx hb dL_law_766 rfl (lv_at hl 1 rfl) ?_
  refine lv_aload_n hx hb dL_law_767 rfl (lv_at hl 0 rfl) ?_
  refine lv_iload_n hx hb dL_law_768 rfl (lv_at hl 3 rfl) ?_
  refine lv_iconst (v := (nI 1)) hx hb dL_law_769 (by decide) ?_
  refine lv_iadd hx hb dL_law_770 ?_
  obtain ⟨g, hf⟩ := ite_g hf
  refine va_sld hx hb hX hbl hbA hH.2 (inb_in g) dL_law_771 ?_
  refine lv_aload_n hx hb dL_law_772 rfl (lv_at hl 0 rfl) ?_
  refine lv_iload_n hx hb dL_law_773 rfl (lv_at hl 3 rfl) ?_
  refine lv_iconst (v := (nI 2)) hx hb dL_law_774 (by decide) ?_
  refine lv_iadd hx hb dL_law_775 ?_
  obtain ⟨g, hf⟩ := ite_g hf
  refine va_sld hx hb hX hbl hbA hH.2 (inb_in g) dL_law_776 ?_
  refine lv_aload_n hx hb dL_law_777 rfl (lv_at hl 0 rfl) ?_
  refine lv_iload_n hx hb dL_law_778 rfl (lv_at hl 3 rfl) ?_
  refine lv_iconst (v := (nI 3)) hx hb dL_law_779 (by decide) ?_
  refine lv_iadd hx hb dL_law_780 ?_
  obtain ⟨g, hf⟩ := ite_g hf
  refine va_sld hx hb hX hbl hbA hH.2 (inb_in g) dL_law_781 ?_
  obtain ⟨r3, S1, h2, hf⟩ := cal_g hf
  refine go_i hH (run_V X hH (rest := []) (c_X6_sheet N S (xs (x3 + (nI 1)).toNatClampNeg) (xs (x3 + (nI 2)).toNatClampNeg) (xs (x3 + (nI 3)).toNatClampNeg) h2) gm_L_95 (by decide) (e_0 E _) rfl rfl hl.1 (law_room hW (by decide) (by decide)) (Nat.le_of_ble_eq_true rfl) rfl dL_law_782) (fun H locs hH => ?_)
  clear h2
  refine lv_aload_n hx hb dL_law_785 rfl (lv_at hl 2 rfl) ?_
  refine lv_aload_n hx hb dL_law_786 rfl (lv_at hl 0 rfl) ?_
  refine lv_iload_n hx hb dL_law_787 rfl (lv_at hl 3 rfl) ?_
  refine lv_iconst (v := (nI 1)) hx hb dL_law_788 (by decide) ?_
  refine lv_iadd hx hb dL_law_789 ?_
  obtain ⟨g, hf⟩ := ite_g hf
  refine va_sld hx hb hX hbl hbA hH.2 (inb_in g) dL_law_790 ?_
  refine lv_aload_n hx hb dL_law_791 rfl (lv_at hl 0 rfl) ?_
  refine lv_iload_n hx hb dL_law_792 rfl (lv_at hl 3 rfl) ?_
  refine lv_iconst (v := (nI 2)) hx hb dL_law_793 (by decide) ?_
  refine lv_iadd hx hb dL_law_794 ?_
  obtain ⟨g, hf⟩ := ite_g hf
  refine va_sld hx hb hX hbl hbA hH.2 (inb_in g) dL_law_795 ?_
  refine lv_aload_n hx hb dL_law_796 rfl (lv_at hl 0 rfl) ?_
  refine lv_iload_n hx hb dL_law_797 rfl (lv_at hl 3 rfl) ?_
  refine lv_iconst (v := (nI 3)) hx hb dL_law_798 (by decide) ?_
  refine lv_iadd hx hb dL_law_799 ?_
  obtain ⟨g, hf⟩ := ite_g hf
  refine va_sld hx hb hX hbl hbA hH.2 (inb_in g) dL_law_800 ?_
  obtain ⟨r6, S4, h5, hf⟩ := cal_g hf
  refine go_i hH (run_V X hH (rest := [.int r3]) (c_X7_sheet N S1 (xs (x3 + (nI 1)).toNatClampNeg) (xs (x3 + (nI 2)).toNatClampNeg) (xs (x3 + (nI 3)).toNatClampNeg) h5) gm_L_99 (by decide) (e_32 E _) rfl rfl hl.1 (law_room hW (by decide) (by decide)) (Nat.le_of_ble_eq_true rfl) rfl dL_law_801) (fun H locs hH => ?_)
  clear h5
  refine lv_icmp_eq (tgt := 1110) hx hb dL_law_804 (by decide) (fun c0 => ?_) (fun c0 => ?_)
  · replace hf := ite_t c0 hf
    obtain ⟨y7, ex, hf⟩ := bnd_go hf
    refine lv_iinc (v := y7) (lv' := [(3, .int y7), (0, .ref bs), (1, .ref (bb E 0)), (2, .ref (bb E 32))]) hx hb dL_law_1110 hl (k := 3) rfl (by rw [ex]; rfl) (by decide) rfl (fun ls hl => ?_)
    clear ex
    refine lv_goto (tgt := 18) hx hb dL_law_1113 (by decide) ?_
    exact hk18 S4 y7 hf _ _ hH _ (lv_sub hl [1, 2, 3, 0] rfl)
  · replace hf := ite_f c0 hf
    refine lv_iconst (v := (nI 0)) hx hb dL_law_807 (by decide) ?_
    exact law_ret X hH hW hf dL_law_808
set_option maxRecDepth 100000 in
set_option maxHeartbeats 4000000 in
theorem w_L_law_732 {p : Program} {l : Launch} {e : Env} {s : State} {m : MethodId} {below : List Frame} {meth : Method} {c : Code} {E : Ev} {S1 : St} {cells slots bs : Nat} (X : GX p s m meth c #[Value.ref bs] cL_law 4 ret RL E) (N : Nat) (xs : Nat → Int32) (L : Nat) (hW : LW E s bs L xs cells slots) (k18 : St → Int32 → Option (Int32 × St)) (hk18 : ∀ (S : St) (x3 : Int32), k18 S x3 = some ((1 : Int32), S1) → ∀ (H : Heap) (locs : List Loc), HH E S s H locs → ∀ ls : Array Slot, lv_has ls 4 [(0, .ref bs), (1, .ref (bb E 0)), (2, .ref (bb E 32)), (3, .int x3)] → W p l e room_1 s m #[Value.ref bs] below meth c H locs cells slots (lw_Z below #[Value.ref bs] s) (F0 m 18 ls [])) : ∀ (S : St) (x3 : Int32), f_L_law_732 N xs L k18 S x3 = some ((1 : Int32), S1) → ∀ (H : Heap) (locs : List Loc), HH E S s H locs → ∀ ls : Array Slot, lv_has ls 4 [(0, .ref bs), (1, .ref (bb E 0)), (2, .ref (bb E 32)), (3, .int x3)] → W p l e room_1 s m #[Value.ref bs] below meth c H locs cells slots (lw_Z below #[Value.ref bs] s) (F0 m 732 ls []) := by
  have hx := X.1
  have hb := X.2.1
  have hX := hW.1
  have hbl := hW.2.1
  have hbA := LW_A hW
  intro S x3 hf H locs hH ls hl
  rw [f_L_law_732] at hf
  refine lv_aload_n hx hb dL_law_732 rfl (lv_at hl 1 rfl) ?_
  refine lv_aload_n hx hb dL_law_733 rfl (lv_at hl 0 rfl) ?_
  refine lv_iload_n hx hb dL_law_734 rfl (lv_at hl 3 rfl) ?_
  refine lv_iconst (v := (nI 1)) hx hb dL_law_735 (by decide) ?_
  refine lv_iadd hx hb dL_law_736 ?_
  obtain ⟨g, hf⟩ := ite_g hf
  refine va_sld hx hb hX hbl hbA hH.2 (inb_in g) dL_law_737 ?_
  refine lv_aload_n hx hb dL_law_738 rfl (lv_at hl 0 rfl) ?_
  refine lv_iload_n hx hb dL_law_739 rfl (lv_at hl 3 rfl) ?_
  refine lv_iconst (v := (nI 2)) hx hb dL_law_740 (by decide) ?_
  refine lv_iadd hx hb dL_law_741 ?_
  obtain ⟨g, hf⟩ := ite_g hf
  refine va_sld hx hb hX hbl hbA hH.2 (inb_in g) dL_law_742 ?_
  obtain ⟨r3, S1, h2, hf⟩ := cal_g hf
  refine go_l hH (run_V X hH (rest := []) (c_X6_odds N S (xs (x3 + (nI 1)).toNatClampNeg) (xs (x3 + (nI 2)).toNatClampNeg) h2) gm_L_90 (by decide) (e_0 E _) rfl rfl hl.1 (law_room hW (by decide) (by decide)) (Nat.le_of_ble_eq_true rfl) rfl dL_law_743) (fun H locs hH => ?_)
  clear h2
  refine lv_aload_n hx hb dL_law_746 rfl (lv_at hl 2 rfl) ?_
  refine lv_aload_n hx hb dL_law_747 rfl (lv_at hl 0 rfl) ?_
  refine lv_iload_n hx hb dL_law_748 rfl (lv_at hl 3 rfl) ?_
  refine lv_iconst (v := (nI 1)) hx hb dL_law_749 (by decide) ?_
  refine lv_iadd hx hb dL_law_750 ?_
  obtain ⟨g, hf⟩ := ite_g hf
  refine va_sld hx hb hX hbl hbA hH.2 (inb_in g) dL_law_751 ?_
  refine lv_aload_n hx hb dL_law_752 rfl (lv_at hl 0 rfl) ?_
  refine lv_iload_n hx hb dL_law_753 rfl (lv_at hl 3 rfl) ?_
  refine lv_iconst (v := (nI 2)) hx hb dL_law_754 (by decide) ?_
  refine lv_iadd hx hb dL_law_755 ?_
  obtain ⟨g, hf⟩ := ite_g hf
  refine va_sld hx hb hX hbl hbA hH.2 (inb_in g) dL_law_756 ?_
  obtain ⟨r6, S4, h5, hf⟩ := cal_g hf
  refine go_l hH (run_V X hH (rest := [.long r3]) (c_X7_odds N S1 (xs (x3 + (nI 1)).toNatClampNeg) (xs (x3 + (nI 2)).toNatClampNeg) h5) gm_L_94 (by decide) (e_32 E _) rfl rfl hl.1 (law_room hW (by decide) (by decide)) (Nat.le_of_ble_eq_true rfl) rfl dL_law_757) (fun H locs hH => ?_)
  clear h5
  refine W.lcmp hx hb dL_law_760 ?_
  refine lv_if_eq (tgt := 1110) hx hb dL_law_761 (by decide) (fun c0 => ?_) (fun c0 => ?_)
  · replace hf := ite_t c0 hf
    obtain ⟨y7, ex, hf⟩ := bnd_go hf
    refine lv_iinc (v := y7) (lv' := [(3, .int y7), (0, .ref bs), (1, .ref (bb E 0)), (2, .ref (bb E 32))]) hx hb dL_law_1110 hl (k := 3) rfl (by rw [ex]; rfl) (by decide) rfl (fun ls hl => ?_)
    clear ex
    refine lv_goto (tgt := 18) hx hb dL_law_1113 (by decide) ?_
    exact hk18 S4 y7 hf _ _ hH _ (lv_sub hl [1, 2, 3, 0] rfl)
  · replace hf := ite_f c0 hf
    refine lv_iconst (v := (nI 0)) hx hb dL_law_764 (by decide) ?_
    exact law_ret X hH hW hf dL_law_765
set_option maxRecDepth 100000 in
set_option maxHeartbeats 4000000 in
theorem w_L_law_709 {p : Program} {l : Launch} {e : Env} {s : State} {m : MethodId} {below : List Frame} {meth : Method} {c : Code} {E : Ev} {S1 : St} {cells slots bs : Nat} (X : GX p s m meth c #[Value.ref bs] cL_law 4 ret RL E) (N : Nat) (xs : Nat → Int32) (L : Nat) (hW : LW E s bs L xs cells slots) (k18 : St → Int32 → Option (Int32 × St)) (hk18 : ∀ (S : St) (x3 : Int32), k18 S x3 = some ((1 : Int32), S1) → ∀ (H : Heap) (locs : List Loc), HH E S s H locs → ∀ ls : Array Slot, lv_has ls 4 [(0, .ref bs), (1, .ref (bb E 0)), (2, .ref (bb E 32)), (3, .int x3)] → W p l e room_1 s m #[Value.ref bs] below meth c H locs cells slots (lw_Z below #[Value.ref bs] s) (F0 m 18 ls [])) : ∀ (S : St) (x3 : Int32), f_L_law_709 N xs L k18 S x3 = some ((1 : Int32), S1) → ∀ (H : Heap) (locs : List Loc), HH E S s H locs → ∀ ls : Array Slot, lv_has ls 4 [(0, .ref bs), (1, .ref (bb E 0)), (2, .ref (bb E 32)), (3, .int x3)] → W p l e room_1 s m #[Value.ref bs] below meth c H locs cells slots (lw_Z below #[Value.ref bs] s) (F0 m 709 ls []) := by
  have hx := X.1
  have hb := X.2.1
  have hX := hW.1
  have hbl := hW.2.1
  have hbA := LW_A hW
  intro S x3 hf H locs hH ls hl
  rw [f_L_law_709] at hf
  refine lv_aload_n hx hb dL_law_709 rfl (lv_at hl 1 rfl) ?_
  refine lv_aload_n hx hb dL_law_710 rfl (lv_at hl 0 rfl) ?_
  refine lv_iload_n hx hb dL_law_711 rfl (lv_at hl 3 rfl) ?_
  refine lv_iconst (v := (nI 1)) hx hb dL_law_712 (by decide) ?_
  refine lv_iadd hx hb dL_law_713 ?_
  obtain ⟨g, hf⟩ := ite_g hf
  refine va_sld hx hb hX hbl hbA hH.2 (inb_in g) dL_law_714 ?_
  obtain ⟨r3, S1, h2, hf⟩ := cal_g hf
  refine go_i hH (run_V X hH (rest := []) (c_X6_kinds N S (xs (x3 + (nI 1)).toNatClampNeg) h2) gm_L_86 (by decide) (e_0 E _) rfl rfl hl.1 (law_room hW (by decide) (by decide)) (Nat.le_of_ble_eq_true rfl) rfl dL_law_715) (fun H locs hH => ?_)
  clear h2
  refine lv_aload_n hx hb dL_law_718 rfl (lv_at hl 2 rfl) ?_
  refine lv_aload_n hx hb dL_law_719 rfl (lv_at hl 0 rfl) ?_
  refine lv_iload_n hx hb dL_law_720 rfl (lv_at hl 3 rfl) ?_
  refine lv_iconst (v := (nI 1)) hx hb dL_law_721 (by decide) ?_
  refine lv_iadd hx hb dL_law_722 ?_
  obtain ⟨g, hf⟩ := ite_g hf
  refine va_sld hx hb hX hbl hbA hH.2 (inb_in g) dL_law_723 ?_
  obtain ⟨r6, S4, h5, hf⟩ := cal_g hf
  refine go_i hH (run_V X hH (rest := [.int r3]) (c_X7_kinds N S1 (xs (x3 + (nI 1)).toNatClampNeg) h5) gm_L_89 (by decide) (e_32 E _) rfl rfl hl.1 (law_room hW (by decide) (by decide)) (Nat.le_of_ble_eq_true rfl) rfl dL_law_724) (fun H locs hH => ?_)
  clear h5
  refine lv_icmp_eq (tgt := 1110) hx hb dL_law_727 (by decide) (fun c0 => ?_) (fun c0 => ?_)
  · replace hf := ite_t c0 hf
    obtain ⟨y7, ex, hf⟩ := bnd_go hf
    refine lv_iinc (v := y7) (lv' := [(3, .int y7), (0, .ref bs), (1, .ref (bb E 0)), (2, .ref (bb E 32))]) hx hb dL_law_1110 hl (k := 3) rfl (by rw [ex]; rfl) (by decide) rfl (fun ls hl => ?_)
    clear ex
    refine lv_goto (tgt := 18) hx hb dL_law_1113 (by decide) ?_
    exact hk18 S4 y7 hf _ _ hH _ (lv_sub hl [1, 2, 3, 0] rfl)
  · replace hf := ite_f c0 hf
    refine lv_iconst (v := (nI 0)) hx hb dL_law_730 (by decide) ?_
    exact law_ret X hH hW hf dL_law_731
set_option maxRecDepth 100000 in
set_option maxHeartbeats 4000000 in
theorem w_L_law_686 {p : Program} {l : Launch} {e : Env} {s : State} {m : MethodId} {below : List Frame} {meth : Method} {c : Code} {E : Ev} {S1 : St} {cells slots bs : Nat} (X : GX p s m meth c #[Value.ref bs] cL_law 4 ret RL E) (N : Nat) (xs : Nat → Int32) (L : Nat) (hW : LW E s bs L xs cells slots) (k18 : St → Int32 → Option (Int32 × St)) (hk18 : ∀ (S : St) (x3 : Int32), k18 S x3 = some ((1 : Int32), S1) → ∀ (H : Heap) (locs : List Loc), HH E S s H locs → ∀ ls : Array Slot, lv_has ls 4 [(0, .ref bs), (1, .ref (bb E 0)), (2, .ref (bb E 32)), (3, .int x3)] → W p l e room_1 s m #[Value.ref bs] below meth c H locs cells slots (lw_Z below #[Value.ref bs] s) (F0 m 18 ls [])) : ∀ (S : St) (x3 : Int32), f_L_law_686 N xs L k18 S x3 = some ((1 : Int32), S1) → ∀ (H : Heap) (locs : List Loc), HH E S s H locs → ∀ ls : Array Slot, lv_has ls 4 [(0, .ref bs), (1, .ref (bb E 0)), (2, .ref (bb E 32)), (3, .int x3)] → W p l e room_1 s m #[Value.ref bs] below meth c H locs cells slots (lw_Z below #[Value.ref bs] s) (F0 m 686 ls []) := by
  have hx := X.1
  have hb := X.2.1
  have hX := hW.1
  have hbl := hW.2.1
  have hbA := LW_A hW
  intro S x3 hf H locs hH ls hl
  rw [f_L_law_686] at hf
  refine lv_aload_n hx hb dL_law_686 rfl (lv_at hl 1 rfl) ?_
  refine lv_aload_n hx hb dL_law_687 rfl (lv_at hl 0 rfl) ?_
  refine lv_iload_n hx hb dL_law_688 rfl (lv_at hl 3 rfl) ?_
  refine lv_iconst (v := (nI 1)) hx hb dL_law_689 (by decide) ?_
  refine lv_iadd hx hb dL_law_690 ?_
  obtain ⟨g, hf⟩ := ite_g hf
  refine va_sld hx hb hX hbl hbA hH.2 (inb_in g) dL_law_691 ?_
  obtain ⟨r3, S1, h2, hf⟩ := cal_g hf
  refine go_i hH (run_V X hH (rest := []) (c_X6_timings N S (xs (x3 + (nI 1)).toNatClampNeg) h2) gm_L_82 (by decide) (e_0 E _) rfl rfl hl.1 (law_room hW (by decide) (by decide)) (Nat.le_of_ble_eq_true rfl) rfl dL_law_692) (fun H locs hH => ?_)
  clear h2
  refine lv_aload_n hx hb dL_law_695 rfl (lv_at hl 2 rfl) ?_
  refine lv_aload_n hx hb dL_law_696 rfl (lv_at hl 0 rfl) ?_
  refine lv_iload_n hx hb dL_law_697 rfl (lv_at hl 3 rfl) ?_
  refine lv_iconst (v := (nI 1)) hx hb dL_law_698 (by decide) ?_
  refine lv_iadd hx hb dL_law_699 ?_
  obtain ⟨g, hf⟩ := ite_g hf
  refine va_sld hx hb hX hbl hbA hH.2 (inb_in g) dL_law_700 ?_
  obtain ⟨r6, S4, h5, hf⟩ := cal_g hf
  refine go_i hH (run_V X hH (rest := [.int r3]) (c_X7_timings N S1 (xs (x3 + (nI 1)).toNatClampNeg) h5) gm_L_85 (by decide) (e_32 E _) rfl rfl hl.1 (law_room hW (by decide) (by decide)) (Nat.le_of_ble_eq_true rfl) rfl dL_law_701) (fun H locs hH => ?_)
  clear h5
  refine lv_icmp_eq (tgt := 1110) hx hb dL_law_704 (by decide) (fun c0 => ?_) (fun c0 => ?_)
  · replace hf := ite_t c0 hf
    obtain ⟨y7, ex, hf⟩ := bnd_go hf
    refine lv_iinc (v := y7) (lv' := [(3, .int y7), (0, .ref bs), (1, .ref (bb E 0)), (2, .ref (bb E 32))]) hx hb dL_law_1110 hl (k := 3) rfl (by rw [ex]; rfl) (by decide) rfl (fun ls hl => ?_)
    clear ex
    refine lv_goto (tgt := 18) hx hb dL_law_1113 (by decide) ?_
    exact hk18 S4 y7 hf _ _ hH _ (lv_sub hl [1, 2, 3, 0] rfl)
  · replace hf := ite_f c0 hf
    refine lv_iconst (v := (nI 0)) hx hb dL_law_707 (by decide) ?_
    exact law_ret X hH hW hf dL_law_708
set_option maxRecDepth 100000 in
set_option maxHeartbeats 4000000 in
theorem w_L_law_663 {p : Program} {l : Launch} {e : Env} {s : State} {m : MethodId} {below : List Frame} {meth : Method} {c : Code} {E : Ev} {S1 : St} {cells slots bs : Nat} (X : GX p s m meth c #[Value.ref bs] cL_law 4 ret RL E) (N : Nat) (xs : Nat → Int32) (L : Nat) (hW : LW E s bs L xs cells slots) (k18 : St → Int32 → Option (Int32 × St)) (hk18 : ∀ (S : St) (x3 : Int32), k18 S x3 = some ((1 : Int32), S1) → ∀ (H : Heap) (locs : List Loc), HH E S s H locs → ∀ ls : Array Slot, lv_has ls 4 [(0, .ref bs), (1, .ref (bb E 0)), (2, .ref (bb E 32)), (3, .int x3)] → W p l e room_1 s m #[Value.ref bs] below meth c H locs cells slots (lw_Z below #[Value.ref bs] s) (F0 m 18 ls [])) : ∀ (S : St) (x3 : Int32), f_L_law_663 N xs L k18 S x3 = some ((1 : Int32), S1) → ∀ (H : Heap) (locs : List Loc), HH E S s H locs → ∀ ls : Array Slot, lv_has ls 4 [(0, .ref bs), (1, .ref (bb E 0)), (2, .ref (bb E 32)), (3, .int x3)] → W p l e room_1 s m #[Value.ref bs] below meth c H locs cells slots (lw_Z below #[Value.ref bs] s) (F0 m 663 ls []) := by
  have hx := X.1
  have hb := X.2.1
  have hX := hW.1
  have hbl := hW.2.1
  have hbA := LW_A hW
  intro S x3 hf H locs hH ls hl
  rw [f_L_law_663] at hf
  refine lv_aload_n hx hb dL_law_663 rfl (lv_at hl 1 rfl) ?_
  refine lv_aload_n hx hb dL_law_664 rfl (lv_at hl 0 rfl) ?_
  refine lv_iload_n hx hb dL_law_665 rfl (lv_at hl 3 rfl) ?_
  refine lv_iconst (v := (nI 1)) hx hb dL_law_666 (by decide) ?_
  refine lv_iadd hx hb dL_law_667 ?_
  obtain ⟨g, hf⟩ := ite_g hf
  refine va_sld hx hb hX hbl hbA hH.2 (inb_in g) dL_law_668 ?_
  obtain ⟨r3, S1, h2, hf⟩ := cal_g hf
  refine go_i hH (run_V X hH (rest := []) (c_X6_back N S (xs (x3 + (nI 1)).toNatClampNeg) h2) gm_L_78 (by decide) (e_0 E _) rfl rfl hl.1 (law_room hW (by decide) (by decide)) (Nat.le_of_ble_eq_true rfl) rfl dL_law_669) (fun H locs hH => ?_)
  clear h2
  refine lv_aload_n hx hb dL_law_672 rfl (lv_at hl 2 rfl) ?_
  refine lv_aload_n hx hb dL_law_673 rfl (lv_at hl 0 rfl) ?_
  refine lv_iload_n hx hb dL_law_674 rfl (lv_at hl 3 rfl) ?_
  refine lv_iconst (v := (nI 1)) hx hb dL_law_675 (by decide) ?_
  refine lv_iadd hx hb dL_law_676 ?_
  obtain ⟨g, hf⟩ := ite_g hf
  refine va_sld hx hb hX hbl hbA hH.2 (inb_in g) dL_law_677 ?_
  obtain ⟨r6, S4, h5, hf⟩ := cal_g hf
  refine go_i hH (run_V X hH (rest := [.int r3]) (c_X7_back N S1 (xs (x3 + (nI 1)).toNatClampNeg) h5) gm_L_81 (by decide) (e_32 E _) rfl rfl hl.1 (law_room hW (by decide) (by decide)) (Nat.le_of_ble_eq_true rfl) rfl dL_law_678) (fun H locs hH => ?_)
  clear h5
  refine lv_icmp_eq (tgt := 1110) hx hb dL_law_681 (by decide) (fun c0 => ?_) (fun c0 => ?_)
  · replace hf := ite_t c0 hf
    obtain ⟨y7, ex, hf⟩ := bnd_go hf
    refine lv_iinc (v := y7) (lv' := [(3, .int y7), (0, .ref bs), (1, .ref (bb E 0)), (2, .ref (bb E 32))]) hx hb dL_law_1110 hl (k := 3) rfl (by rw [ex]; rfl) (by decide) rfl (fun ls hl => ?_)
    clear ex
    refine lv_goto (tgt := 18) hx hb dL_law_1113 (by decide) ?_
    exact hk18 S4 y7 hf _ _ hH _ (lv_sub hl [1, 2, 3, 0] rfl)
  · replace hf := ite_f c0 hf
    refine lv_iconst (v := (nI 0)) hx hb dL_law_684 (by decide) ?_
    exact law_ret X hH hW hf dL_law_685
set_option maxRecDepth 100000 in
set_option maxHeartbeats 4000000 in
theorem w_L_law_630 {p : Program} {l : Launch} {e : Env} {s : State} {m : MethodId} {below : List Frame} {meth : Method} {c : Code} {E : Ev} {S1 : St} {cells slots bs : Nat} (X : GX p s m meth c #[Value.ref bs] cL_law 4 ret RL E) (N : Nat) (xs : Nat → Int32) (L : Nat) (hW : LW E s bs L xs cells slots) (k18 : St → Int32 → Option (Int32 × St)) (hk18 : ∀ (S : St) (x3 : Int32), k18 S x3 = some ((1 : Int32), S1) → ∀ (H : Heap) (locs : List Loc), HH E S s H locs → ∀ ls : Array Slot, lv_has ls 4 [(0, .ref bs), (1, .ref (bb E 0)), (2, .ref (bb E 32)), (3, .int x3)] → W p l e room_1 s m #[Value.ref bs] below meth c H locs cells slots (lw_Z below #[Value.ref bs] s) (F0 m 18 ls [])) : ∀ (S : St) (x3 : Int32), f_L_law_630 N xs L k18 S x3 = some ((1 : Int32), S1) → ∀ (H : Heap) (locs : List Loc), HH E S s H locs → ∀ ls : Array Slot, lv_has ls 4 [(0, .ref bs), (1, .ref (bb E 0)), (2, .ref (bb E 32)), (3, .int x3)] → W p l e room_1 s m #[Value.ref bs] below meth c H locs cells slots (lw_Z below #[Value.ref bs] s) (F0 m 630 ls []) := by
  have hx := X.1
  have hb := X.2.1
  have hX := hW.1
  have hbl := hW.2.1
  have hbA := LW_A hW
  intro S x3 hf H locs hH ls hl
  rw [f_L_law_630] at hf
  refine lv_aload_n hx hb dL_law_630 rfl (lv_at hl 1 rfl) ?_
  refine lv_aload_n hx hb dL_law_631 rfl (lv_at hl 0 rfl) ?_
  refine lv_iload_n hx hb dL_law_632 rfl (lv_at hl 3 rfl) ?_
  refine lv_iconst (v := (nI 1)) hx hb dL_law_633 (by decide) ?_
  refine lv_iadd hx hb dL_law_634 ?_
  obtain ⟨g, hf⟩ := ite_g hf
  refine va_sld hx hb hX hbl hbA hH.2 (inb_in g) dL_law_635 ?_
  refine lv_aload_n hx hb dL_law_636 rfl (lv_at hl 0 rfl) ?_
  refine lv_iload_n hx hb dL_law_637 rfl (lv_at hl 3 rfl) ?_
  refine lv_iconst (v := (nI 2)) hx hb dL_law_638 (by decide) ?_
  refine lv_iadd hx hb dL_law_639 ?_
  obtain ⟨g, hf⟩ := ite_g hf
  refine va_sld hx hb hX hbl hbA hH.2 (inb_in g) dL_law_640 ?_
  obtain ⟨r3, S1, h2, hf⟩ := cal_g hf
  refine go_i hH (run_V X hH (rest := []) (c_X6_reading N S (xs (x3 + (nI 1)).toNatClampNeg) (xs (x3 + (nI 2)).toNatClampNeg) h2) gm_L_74 (by decide) (e_0 E _) rfl rfl hl.1 (law_room hW (by decide) (by decide)) (Nat.le_of_ble_eq_true rfl) rfl dL_law_641) (fun H locs hH => ?_)
  clear h2
  refine lv_aload_n hx hb dL_law_644 rfl (lv_at hl 2 rfl) ?_
  refine lv_aload_n hx hb dL_law_645 rfl (lv_at hl 0 rfl) ?_
  refine lv_iload_n hx hb dL_law_646 rfl (lv_at hl 3 rfl) ?_
  refine lv_iconst (v := (nI 1)) hx hb dL_law_647 (by decide) ?_
  refine lv_iadd hx hb dL_law_648 ?_
  obtain ⟨g, hf⟩ := ite_g hf
  refine va_sld hx hb hX hbl hbA hH.2 (inb_in g) dL_law_649 ?_
  refine lv_aload_n hx hb dL_law_650 rfl (lv_at hl 0 rfl) ?_
  refine lv_iload_n hx hb dL_law_651 rfl (lv_at hl 3 rfl) ?_
  refine lv_iconst (v := (nI 2)) hx hb dL_law_652 (by decide) ?_
  refine lv_iadd hx hb dL_law_653 ?_
  obtain ⟨g, hf⟩ := ite_g hf
  refine va_sld hx hb hX hbl hbA hH.2 (inb_in g) dL_law_654 ?_
  obtain ⟨r6, S4, h5, hf⟩ := cal_g hf
  refine go_i hH (run_V X hH (rest := [.int r3]) (c_X7_reading N S1 (xs (x3 + (nI 1)).toNatClampNeg) (xs (x3 + (nI 2)).toNatClampNeg) h5) gm_L_77 (by decide) (e_32 E _) rfl rfl hl.1 (law_room hW (by decide) (by decide)) (Nat.le_of_ble_eq_true rfl) rfl dL_law_655) (fun H locs hH => ?_)
  clear h5
  refine lv_icmp_eq (tgt := 1110) hx hb dL_law_658 (by decide) (fun c0 => ?_) (fun c0 => ?_)
  · replace hf := ite_t c0 hf
    obtain ⟨y7, ex, hf⟩ := bnd_go hf
    refine lv_iinc (v := y7) (lv' := [(3, .int y7), (0, .ref bs), (1, .ref (bb E 0)), (2, .ref (bb E 32))]) hx hb dL_law_1110 hl (k := 3) rfl (by rw [ex]; rfl) (by decide) rfl (fun ls hl => ?_)
    clear ex
    refine lv_goto (tgt := 18) hx hb dL_law_1113 (by decide) ?_
    exact hk18 S4 y7 hf _ _ hH _ (lv_sub hl [1, 2, 3, 0] rfl)
  · replace hf := ite_f c0 hf
    refine lv_iconst (v := (nI 0)) hx hb dL_law_661 (by decide) ?_
    exact law_ret X hH hW hf dL_law_662
set_option maxRecDepth 100000 in
set_option maxHeartbeats 4000000 in
theorem w_L_law_617 {p : Program} {l : Launch} {e : Env} {s : State} {m : MethodId} {below : List Frame} {meth : Method} {c : Code} {E : Ev} {S1 : St} {cells slots bs : Nat} (X : GX p s m meth c #[Value.ref bs] cL_law 4 ret RL E) (N : Nat) (xs : Nat → Int32) (L : Nat) (hW : LW E s bs L xs cells slots) (k18 : St → Int32 → Option (Int32 × St)) (hk18 : ∀ (S : St) (x3 : Int32), k18 S x3 = some ((1 : Int32), S1) → ∀ (H : Heap) (locs : List Loc), HH E S s H locs → ∀ ls : Array Slot, lv_has ls 4 [(0, .ref bs), (1, .ref (bb E 0)), (2, .ref (bb E 32)), (3, .int x3)] → W p l e room_1 s m #[Value.ref bs] below meth c H locs cells slots (lw_Z below #[Value.ref bs] s) (F0 m 18 ls [])) : ∀ (S : St) (x3 : Int32), f_L_law_617 N xs L k18 S x3 = some ((1 : Int32), S1) → ∀ (H : Heap) (locs : List Loc), HH E S s H locs → ∀ ls : Array Slot, lv_has ls 4 [(0, .ref bs), (1, .ref (bb E 0)), (2, .ref (bb E 32)), (3, .int x3)] → W p l e room_1 s m #[Value.ref bs] below meth c H locs cells slots (lw_Z below #[Value.ref bs] s) (F0 m 617 ls []) := by
  have hx := X.1
  have hb := X.2.1
  have hX := hW.1
  have hbl := hW.2.1
  have hbA := LW_A hW
  intro S x3 hf H locs hH ls hl
  rw [f_L_law_617] at hf
  refine lv_aload_n hx hb dL_law_617 rfl (lv_at hl 1 rfl) ?_
  obtain ⟨r3, S1, h2, hf⟩ := cal_g hf
  refine go_i hH (run_V X hH (rest := []) (c_X6_come N S h2) gm_L_70 (by decide) (e_0 E _) rfl rfl hl.1 (law_room hW (by decide) (by decide)) (Nat.le_of_ble_eq_true rfl) rfl dL_law_618) (fun H locs hH => ?_)
  clear h2
  refine lv_aload_n hx hb dL_law_621 rfl (lv_at hl 2 rfl) ?_
  obtain ⟨r6, S4, h5, hf⟩ := cal_g hf
  refine go_i hH (run_V X hH (rest := [.int r3]) (c_X7_come N S1 h5) gm_L_73 (by decide) (e_32 E _) rfl rfl hl.1 (law_room hW (by decide) (by decide)) (Nat.le_of_ble_eq_true rfl) rfl dL_law_622) (fun H locs hH => ?_)
  clear h5
  refine lv_icmp_eq (tgt := 1110) hx hb dL_law_625 (by decide) (fun c0 => ?_) (fun c0 => ?_)
  · replace hf := ite_t c0 hf
    obtain ⟨y7, ex, hf⟩ := bnd_go hf
    refine lv_iinc (v := y7) (lv' := [(3, .int y7), (0, .ref bs), (1, .ref (bb E 0)), (2, .ref (bb E 32))]) hx hb dL_law_1110 hl (k := 3) rfl (by rw [ex]; rfl) (by decide) rfl (fun ls hl => ?_)
    clear ex
    refine lv_goto (tgt := 18) hx hb dL_law_1113 (by decide) ?_
    exact hk18 S4 y7 hf _ _ hH _ (lv_sub hl [1, 2, 3, 0] rfl)
  · replace hf := ite_f c0 hf
    refine lv_iconst (v := (nI 0)) hx hb dL_law_628 (by decide) ?_
    exact law_ret X hH hW hf dL_law_629
set_option maxRecDepth 100000 in
set_option maxHeartbeats 4000000 in
theorem w_L_law_594 {p : Program} {l : Launch} {e : Env} {s : State} {m : MethodId} {below : List Frame} {meth : Method} {c : Code} {E : Ev} {S1 : St} {cells slots bs : Nat} (X : GX p s m meth c #[Value.ref bs] cL_law 4 ret RL E) (N : Nat) (xs : Nat → Int32) (L : Nat) (hW : LW E s bs L xs cells slots) (k18 : St → Int32 → Option (Int32 × St)) (hk18 : ∀ (S : St) (x3 : Int32), k18 S x3 = some ((1 : Int32), S1) → ∀ (H : Heap) (locs : List Loc), HH E S s H locs → ∀ ls : Array Slot, lv_has ls 4 [(0, .ref bs), (1, .ref (bb E 0)), (2, .ref (bb E 32)), (3, .int x3)] → W p l e room_1 s m #[Value.ref bs] below meth c H locs cells slots (lw_Z below #[Value.ref bs] s) (F0 m 18 ls [])) : ∀ (S : St) (x3 : Int32), f_L_law_594 N xs L k18 S x3 = some ((1 : Int32), S1) → ∀ (H : Heap) (locs : List Loc), HH E S s H locs → ∀ ls : Array Slot, lv_has ls 4 [(0, .ref bs), (1, .ref (bb E 0)), (2, .ref (bb E 32)), (3, .int x3)] → W p l e room_1 s m #[Value.ref bs] below meth c H locs cells slots (lw_Z below #[Value.ref bs] s) (F0 m 594 ls []) := by
  have hx := X.1
  have hb := X.2.1
  have hX := hW.1
  have hbl := hW.2.1
  have hbA := LW_A hW
  intro S x3 hf H locs hH ls hl
  rw [f_L_law_594] at hf
  refine lv_aload_n hx hb dL_law_594 rfl (lv_at hl 1 rfl) ?_
  refine lv_aload_n hx hb dL_law_595 rfl (lv_at hl 0 rfl) ?_
  refine lv_iload_n hx hb dL_law_596 rfl (lv_at hl 3 rfl) ?_
  refine lv_iconst (v := (nI 1)) hx hb dL_law_597 (by decide) ?_
  refine lv_iadd hx hb dL_law_598 ?_
  obtain ⟨g, hf⟩ := ite_g hf
  refine va_sld hx hb hX hbl hbA hH.2 (inb_in g) dL_law_599 ?_
  obtain ⟨r3, S1, h2, hf⟩ := cal_g hf
  refine go_i hH (run_V X hH (rest := []) (c_X6_still N S (xs (x3 + (nI 1)).toNatClampNeg) h2) gm_L_66 (by decide) (e_0 E _) rfl rfl hl.1 (law_room hW (by decide) (by decide)) (Nat.le_of_ble_eq_true rfl) rfl dL_law_600) (fun H locs hH => ?_)
  clear h2
  refine lv_aload_n hx hb dL_law_603 rfl (lv_at hl 2 rfl) ?_
  refine lv_aload_n hx hb dL_law_604 rfl (lv_at hl 0 rfl) ?_
  refine lv_iload_n hx hb dL_law_605 rfl (lv_at hl 3 rfl) ?_
  refine lv_iconst (v := (nI 1)) hx hb dL_law_606 (by decide) ?_
  refine lv_iadd hx hb dL_law_607 ?_
  obtain ⟨g, hf⟩ := ite_g hf
  refine va_sld hx hb hX hbl hbA hH.2 (inb_in g) dL_law_608 ?_
  obtain ⟨r6, S4, h5, hf⟩ := cal_g hf
  refine go_i hH (run_V X hH (rest := [.int r3]) (c_X7_still N S1 (xs (x3 + (nI 1)).toNatClampNeg) h5) gm_L_69 (by decide) (e_32 E _) rfl rfl hl.1 (law_room hW (by decide) (by decide)) (Nat.le_of_ble_eq_true rfl) rfl dL_law_609) (fun H locs hH => ?_)
  clear h5
  refine lv_icmp_eq (tgt := 1110) hx hb dL_law_612 (by decide) (fun c0 => ?_) (fun c0 => ?_)
  · replace hf := ite_t c0 hf
    obtain ⟨y7, ex, hf⟩ := bnd_go hf
    refine lv_iinc (v := y7) (lv' := [(3, .int y7), (0, .ref bs), (1, .ref (bb E 0)), (2, .ref (bb E 32))]) hx hb dL_law_1110 hl (k := 3) rfl (by rw [ex]; rfl) (by decide) rfl (fun ls hl => ?_)
    clear ex
    refine lv_goto (tgt := 18) hx hb dL_law_1113 (by decide) ?_
    exact hk18 S4 y7 hf _ _ hH _ (lv_sub hl [1, 2, 3, 0] rfl)
  · replace hf := ite_f c0 hf
    refine lv_iconst (v := (nI 0)) hx hb dL_law_615 (by decide) ?_
    exact law_ret X hH hW hf dL_law_616
set_option maxRecDepth 100000 in
set_option maxHeartbeats 4000000 in
theorem w_L_law_561 {p : Program} {l : Launch} {e : Env} {s : State} {m : MethodId} {below : List Frame} {meth : Method} {c : Code} {E : Ev} {S1 : St} {cells slots bs : Nat} (X : GX p s m meth c #[Value.ref bs] cL_law 4 ret RL E) (N : Nat) (xs : Nat → Int32) (L : Nat) (hW : LW E s bs L xs cells slots) (k18 : St → Int32 → Option (Int32 × St)) (hk18 : ∀ (S : St) (x3 : Int32), k18 S x3 = some ((1 : Int32), S1) → ∀ (H : Heap) (locs : List Loc), HH E S s H locs → ∀ ls : Array Slot, lv_has ls 4 [(0, .ref bs), (1, .ref (bb E 0)), (2, .ref (bb E 32)), (3, .int x3)] → W p l e room_1 s m #[Value.ref bs] below meth c H locs cells slots (lw_Z below #[Value.ref bs] s) (F0 m 18 ls [])) : ∀ (S : St) (x3 : Int32), f_L_law_561 N xs L k18 S x3 = some ((1 : Int32), S1) → ∀ (H : Heap) (locs : List Loc), HH E S s H locs → ∀ ls : Array Slot, lv_has ls 4 [(0, .ref bs), (1, .ref (bb E 0)), (2, .ref (bb E 32)), (3, .int x3)] → W p l e room_1 s m #[Value.ref bs] below meth c H locs cells slots (lw_Z below #[Value.ref bs] s) (F0 m 561 ls []) := by
  have hx := X.1
  have hb := X.2.1
  have hX := hW.1
  have hbl := hW.2.1
  have hbA := LW_A hW
  intro S x3 hf H locs hH ls hl
  rw [f_L_law_561] at hf
  refine lv_aload_n hx hb dL_law_561 rfl (lv_at hl 1 rfl) ?_
  refine lv_aload_n hx hb dL_law_562 rfl (lv_at hl 0 rfl) ?_
  refine lv_iload_n hx hb dL_law_563 rfl (lv_at hl 3 rfl) ?_
  refine lv_iconst (v := (nI 1)) hx hb dL_law_564 (by decide) ?_
  refine lv_iadd hx hb dL_law_565 ?_
  obtain ⟨g, hf⟩ := ite_g hf
  refine va_sld hx hb hX hbl hbA hH.2 (inb_in g) dL_law_566 ?_
  refine lv_aload_n hx hb dL_law_567 rfl (lv_at hl 0 rfl) ?_
  refine lv_iload_n hx hb dL_law_568 rfl (lv_at hl 3 rfl) ?_
  refine lv_iconst (v := (nI 2)) hx hb dL_law_569 (by decide) ?_
  refine lv_iadd hx hb dL_law_570 ?_
  obtain ⟨g, hf⟩ := ite_g hf
  refine va_sld hx hb hX hbl hbA hH.2 (inb_in g) dL_law_571 ?_
  obtain ⟨r3, S1, h2, hf⟩ := cal_g hf
  refine go_i hH (run_V X hH (rest := []) (c_X6_like N S (xs (x3 + (nI 1)).toNatClampNeg) (xs (x3 + (nI 2)).toNatClampNeg) h2) gm_L_62 (by decide) (e_0 E _) rfl rfl hl.1 (law_room hW (by decide) (by decide)) (Nat.le_of_ble_eq_true rfl) rfl dL_law_572) (fun H locs hH => ?_)
  clear h2
  refine lv_aload_n hx hb dL_law_575 rfl (lv_at hl 2 rfl) ?_
  refine lv_aload_n hx hb dL_law_576 rfl (lv_at hl 0 rfl) ?_
  refine lv_iload_n hx hb dL_law_577 rfl (lv_at hl 3 rfl) ?_
  refine lv_iconst (v := (nI 1)) hx hb dL_law_578 (by decide) ?_
  refine lv_iadd hx hb dL_law_579 ?_
  obtain ⟨g, hf⟩ := ite_g hf
  refine va_sld hx hb hX hbl hbA hH.2 (inb_in g) dL_law_580 ?_
  refine lv_aload_n hx hb dL_law_581 rfl (lv_at hl 0 rfl) ?_
  refine lv_iload_n hx hb dL_law_582 rfl (lv_at hl 3 rfl) ?_
  refine lv_iconst (v := (nI 2)) hx hb dL_law_583 (by decide) ?_
  refine lv_iadd hx hb dL_law_584 ?_
  obtain ⟨g, hf⟩ := ite_g hf
  refine va_sld hx hb hX hbl hbA hH.2 (inb_in g) dL_law_585 ?_
  obtain ⟨r6, S4, h5, hf⟩ := cal_g hf
  refine go_i hH (run_V X hH (rest := [.int r3]) (c_X7_like N S1 (xs (x3 + (nI 1)).toNatClampNeg) (xs (x3 + (nI 2)).toNatClampNeg) h5) gm_L_65 (by decide) (e_32 E _) rfl rfl hl.1 (law_room hW (by decide) (by decide)) (Nat.le_of_ble_eq_true rfl) rfl dL_law_586) (fun H locs hH => ?_)
  clear h5
  refine lv_icmp_eq (tgt := 1110) hx hb dL_law_589 (by decide) (fun c0 => ?_) (fun c0 => ?_)
  · replace hf := ite_t c0 hf
    obtain ⟨y7, ex, hf⟩ := bnd_go hf
    refine lv_iinc (v := y7) (lv' := [(3, .int y7), (0, .ref bs), (1, .ref (bb E 0)), (2, .ref (bb E 32))]) hx hb dL_law_1110 hl (k := 3) rfl (by rw [ex]; rfl) (by decide) rfl (fun ls hl => ?_)
    clear ex
    refine lv_goto (tgt := 18) hx hb dL_law_1113 (by decide) ?_
    exact hk18 S4 y7 hf _ _ hH _ (lv_sub hl [1, 2, 3, 0] rfl)
  · replace hf := ite_f c0 hf
    refine lv_iconst (v := (nI 0)) hx hb dL_law_592 (by decide) ?_
    exact law_ret X hH hW hf dL_law_593
set_option maxRecDepth 100000 in
set_option maxHeartbeats 4000000 in
theorem w_L_law_528 {p : Program} {l : Launch} {e : Env} {s : State} {m : MethodId} {below : List Frame} {meth : Method} {c : Code} {E : Ev} {S1 : St} {cells slots bs : Nat} (X : GX p s m meth c #[Value.ref bs] cL_law 4 ret RL E) (N : Nat) (xs : Nat → Int32) (L : Nat) (hW : LW E s bs L xs cells slots) (k18 : St → Int32 → Option (Int32 × St)) (hk18 : ∀ (S : St) (x3 : Int32), k18 S x3 = some ((1 : Int32), S1) → ∀ (H : Heap) (locs : List Loc), HH E S s H locs → ∀ ls : Array Slot, lv_has ls 4 [(0, .ref bs), (1, .ref (bb E 0)), (2, .ref (bb E 32)), (3, .int x3)] → W p l e room_1 s m #[Value.ref bs] below meth c H locs cells slots (lw_Z below #[Value.ref bs] s) (F0 m 18 ls [])) : ∀ (S : St) (x3 : Int32), f_L_law_528 N xs L k18 S x3 = some ((1 : Int32), S1) → ∀ (H : Heap) (locs : List Loc), HH E S s H locs → ∀ ls : Array Slot, lv_has ls 4 [(0, .ref bs), (1, .ref (bb E 0)), (2, .ref (bb E 32)), (3, .int x3)] → W p l e room_1 s m #[Value.ref bs] below meth c H locs cells slots (lw_Z below #[Value.ref bs] s) (F0 m 528 ls []) := by
  have hx := X.1
  have hb := X.2.1
  have hX := hW.1
  have hbl := hW.2.1
  have hbA := LW_A hW
  intro S x3 hf H locs hH ls hl
  rw [f_L_law_528] at hf
  refine lv_aload_n hx hb dL_law_528 rfl (lv_at hl 1 rfl) ?_
  refine lv_aload_n hx hb dL_law_529 rfl (lv_at hl 0 rfl) ?_
  refine lv_iload_n hx hb dL_law_530 rfl (lv_at hl 3 rfl) ?_
  refine lv_iconst (v := (nI 1)) hx hb dL_law_531 (by decide) ?_
  refine lv_iadd hx hb dL_law_532 ?_
  obtain ⟨g, hf⟩ := ite_g hf
  refine va_sld hx hb hX hbl hbA hH.2 (inb_in g) dL_law_533 ?_
  refine lv_aload_n hx hb dL_law_534 rfl (lv_at hl 0 rfl) ?_
  refine lv_iload_n hx hb dL_law_535 rfl (lv_at hl 3 rfl) ?_
  refine lv_iconst (v := (nI 2)) hx hb dL_law_536 (by decide) ?_
  refine lv_iadd hx hb dL_law_537 ?_
  obtain ⟨g, hf⟩ := ite_g hf
  refine va_sld hx hb hX hbl hbA hH.2 (inb_in g) dL_law_538 ?_
  obtain ⟨r3, S1, h2, hf⟩ := cal_g hf
  refine go_i hH (run_V X hH (rest := []) (c_X6_again N S (xs (x3 + (nI 1)).toNatClampNeg) (xs (x3 + (nI 2)).toNatClampNeg) h2) gm_L_58 (by decide) (e_0 E _) rfl rfl hl.1 (law_room hW (by decide) (by decide)) (Nat.le_of_ble_eq_true rfl) rfl dL_law_539) (fun H locs hH => ?_)
  clear h2
  refine lv_aload_n hx hb dL_law_542 rfl (lv_at hl 2 rfl) ?_
  refine lv_aload_n hx hb dL_law_543 rfl (lv_at hl 0 rfl) ?_
  refine lv_iload_n hx hb dL_law_544 rfl (lv_at hl 3 rfl) ?_
  refine lv_iconst (v := (nI 1)) hx hb dL_law_545 (by decide) ?_
  refine lv_iadd hx hb dL_law_546 ?_
  obtain ⟨g, hf⟩ := ite_g hf
  refine va_sld hx hb hX hbl hbA hH.2 (inb_in g) dL_law_547 ?_
  refine lv_aload_n hx hb dL_law_548 rfl (lv_at hl 0 rfl) ?_
  refine lv_iload_n hx hb dL_law_549 rfl (lv_at hl 3 rfl) ?_
  refine lv_iconst (v := (nI 2)) hx hb dL_law_550 (by decide) ?_
  refine lv_iadd hx hb dL_law_551 ?_
  obtain ⟨g, hf⟩ := ite_g hf
  refine va_sld hx hb hX hbl hbA hH.2 (inb_in g) dL_law_552 ?_
  obtain ⟨r6, S4, h5, hf⟩ := cal_g hf
  refine go_i hH (run_V X hH (rest := [.int r3]) (c_X7_again N S1 (xs (x3 + (nI 1)).toNatClampNeg) (xs (x3 + (nI 2)).toNatClampNeg) h5) gm_L_61 (by decide) (e_32 E _) rfl rfl hl.1 (law_room hW (by decide) (by decide)) (Nat.le_of_ble_eq_true rfl) rfl dL_law_553) (fun H locs hH => ?_)
  clear h5
  refine lv_icmp_eq (tgt := 1110) hx hb dL_law_556 (by decide) (fun c0 => ?_) (fun c0 => ?_)
  · replace hf := ite_t c0 hf
    obtain ⟨y7, ex, hf⟩ := bnd_go hf
    refine lv_iinc (v := y7) (lv' := [(3, .int y7), (0, .ref bs), (1, .ref (bb E 0)), (2, .ref (bb E 32))]) hx hb dL_law_1110 hl (k := 3) rfl (by rw [ex]; rfl) (by decide) rfl (fun ls hl => ?_)
    clear ex
    refine lv_goto (tgt := 18) hx hb dL_law_1113 (by decide) ?_
    exact hk18 S4 y7 hf _ _ hH _ (lv_sub hl [1, 2, 3, 0] rfl)
  · replace hf := ite_f c0 hf
    refine lv_iconst (v := (nI 0)) hx hb dL_law_559 (by decide) ?_
    exact law_ret X hH hW hf dL_law_560
set_option maxRecDepth 100000 in
set_option maxHeartbeats 4000000 in
theorem w_L_law_465 {p : Program} {l : Launch} {e : Env} {s : State} {m : MethodId} {below : List Frame} {meth : Method} {c : Code} {E : Ev} {S1 : St} {cells slots bs : Nat} (X : GX p s m meth c #[Value.ref bs] cL_law 4 ret RL E) (N : Nat) (xs : Nat → Int32) (L : Nat) (hW : LW E s bs L xs cells slots) (k18 : St → Int32 → Option (Int32 × St)) (hk18 : ∀ (S : St) (x3 : Int32), k18 S x3 = some ((1 : Int32), S1) → ∀ (H : Heap) (locs : List Loc), HH E S s H locs → ∀ ls : Array Slot, lv_has ls 4 [(0, .ref bs), (1, .ref (bb E 0)), (2, .ref (bb E 32)), (3, .int x3)] → W p l e room_1 s m #[Value.ref bs] below meth c H locs cells slots (lw_Z below #[Value.ref bs] s) (F0 m 18 ls [])) : ∀ (S : St) (x3 : Int32), f_L_law_465 N xs L k18 S x3 = some ((1 : Int32), S1) → ∀ (H : Heap) (locs : List Loc), HH E S s H locs → ∀ ls : Array Slot, lv_has ls 4 [(0, .ref bs), (1, .ref (bb E 0)), (2, .ref (bb E 32)), (3, .int x3)] → W p l e room_1 s m #[Value.ref bs] below meth c H locs cells slots (lw_Z below #[Value.ref bs] s) (F0 m 465 ls []) := by
  have hx := X.1
  have hb := X.2.1
  have hX := hW.1
  have hbl := hW.2.1
  have hbA := LW_A hW
  intro S x3 hf H locs hH ls hl
  rw [f_L_law_465] at hf
  refine lv_aload_n hx hb dL_law_465 rfl (lv_at hl 1 rfl) ?_
  refine lv_aload_n hx hb dL_law_466 rfl (lv_at hl 0 rfl) ?_
  refine lv_iload_n hx hb dL_law_467 rfl (lv_at hl 3 rfl) ?_
  refine lv_iconst (v := (nI 1)) hx hb dL_law_468 (by decide) ?_
  refine lv_iadd hx hb dL_law_469 ?_
  obtain ⟨g, hf⟩ := ite_g hf
  refine va_sld hx hb hX hbl hbA hH.2 (inb_in g) dL_law_470 ?_
  refine lv_aload_n hx hb dL_law_471 rfl (lv_at hl 0 rfl) ?_
  refine lv_iload_n hx hb dL_law_472 rfl (lv_at hl 3 rfl) ?_
  refine lv_iconst (v := (nI 2)) hx hb dL_law_473 (by decide) ?_
  refine lv_iadd hx hb dL_law_474 ?_
  obtain ⟨g, hf⟩ := ite_g hf
  refine va_sld hx hb hX hbl hbA hH.2 (inb_in g) dL_law_475 ?_
  refine lv_aload_n hx hb dL_law_476 rfl (lv_at hl 0 rfl) ?_
  refine lv_iload_n hx hb dL_law_477 rfl (lv_at hl 3 rfl) ?_
  refine lv_iconst (v := (nI 3)) hx hb dL_law_478 (by decide) ?_
  refine lv_iadd hx hb dL_law_479 ?_
  obtain ⟨g, hf⟩ := ite_g hf
  refine va_sld hx hb hX hbl hbA hH.2 (inb_in g) dL_law_480 ?_
  refine lv_aload_n hx hb dL_law_481 rfl (lv_at hl 0 rfl) ?_
  refine lv_iload_n hx hb dL_law_482 rfl (lv_at hl 3 rfl) ?_
  refine lv_iconst (v := (nI 4)) hx hb dL_law_483 (by decide) ?_
  refine lv_iadd hx hb dL_law_484 ?_
  obtain ⟨g, hf⟩ := ite_g hf
  refine va_sld hx hb hX hbl hbA hH.2 (inb_in g) dL_law_485 ?_
  refine lv_aload_n hx hb dL_law_486 rfl (lv_at hl 0 rfl) ?_
  refine lv_iload_n hx hb dL_law_487 rfl (lv_at hl 3 rfl) ?_
  refine lv_iconst (v := (nI 5)) hx hb dL_law_488 (by decide) ?_
  refine lv_iadd hx hb dL_law_489 ?_
  obtain ⟨g, hf⟩ := ite_g hf
  refine va_sld hx hb hX hbl hbA hH.2 (inb_in g) dL_law_490 ?_
  obtain ⟨r3, S1, h2, hf⟩ := cal_g hf
  refine go_i hH (run_V X hH (rest := []) (c_X6_fewest N S (xs (x3 + (nI 1)).toNatClampNeg) (xs (x3 + (nI 2)).toNatClampNeg) (xs (x3 + (nI 3)).toNatClampNeg) (xs (x3 + (nI 4)).toNatClampNeg) (xs (x3 + (nI 5)).toNatClampNeg) h2) gm_L_54 (by decide) (e_0 E _) rfl rfl hl.1 (law_room hW (by decide) (by decide)) (Nat.le_of_ble_eq_true rfl) rfl dL_law_491) (fun H locs hH => ?_)
  clear h2
  refine lv_aload_n hx hb dL_law_494 rfl (lv_at hl 2 rfl) ?_
  refine lv_aload_n hx hb dL_law_495 rfl (lv_at hl 0 rfl) ?_
  refine lv_iload_n hx hb dL_law_496 rfl (lv_at hl 3 rfl) ?_
  refine lv_iconst (v := (nI 1)) hx hb dL_law_497 (by decide) ?_
  refine lv_iadd hx hb dL_law_498 ?_
  obtain ⟨g, hf⟩ := ite_g hf
  refine va_sld hx hb hX hbl hbA hH.2 (inb_in g) dL_law_499 ?_
  refine lv_aload_n hx hb dL_law_500 rfl (lv_at hl 0 rfl) ?_
  refine lv_iload_n hx hb dL_law_501 rfl (lv_at hl 3 rfl) ?_
  refine lv_iconst (v := (nI 2)) hx hb dL_law_502 (by decide) ?_
  refine lv_iadd hx hb dL_law_503 ?_
  obtain ⟨g, hf⟩ := ite_g hf
  refine va_sld hx hb hX hbl hbA hH.2 (inb_in g) dL_law_504 ?_
  refine lv_aload_n hx hb dL_law_505 rfl (lv_at hl 0 rfl) ?_
  refine lv_iload_n hx hb dL_law_506 rfl (lv_at hl 3 rfl) ?_
  refine lv_iconst (v := (nI 3)) hx hb dL_law_507 (by decide) ?_
  refine lv_iadd hx hb dL_law_508 ?_
  obtain ⟨g, hf⟩ := ite_g hf
  refine va_sld hx hb hX hbl hbA hH.2 (inb_in g) dL_law_509 ?_
  refine lv_aload_n hx hb dL_law_510 rfl (lv_at hl 0 rfl) ?_
  refine lv_iload_n hx hb dL_law_511 rfl (lv_at hl 3 rfl) ?_
  refine lv_iconst (v := (nI 4)) hx hb dL_law_512 (by decide) ?_
  refine lv_iadd hx hb dL_law_513 ?_
  obtain ⟨g, hf⟩ := ite_g hf
  refine va_sld hx hb hX hbl hbA hH.2 (inb_in g) dL_law_514 ?_
  refine lv_aload_n hx hb dL_law_515 rfl (lv_at hl 0 rfl) ?_
  refine lv_iload_n hx hb dL_law_516 rfl (lv_at hl 3 rfl) ?_
  refine lv_iconst (v := (nI 5)) hx hb dL_law_517 (by decide) ?_
  refine lv_iadd hx hb dL_law_518 ?_
  obtain ⟨g, hf⟩ := ite_g hf
  refine va_sld hx hb hX hbl hbA hH.2 (inb_in g) dL_law_519 ?_
  obtain ⟨r6, S4, h5, hf⟩ := cal_g hf
  refine go_i hH (run_V X hH (rest := [.int r3]) (c_X7_fewest N S1 (xs (x3 + (nI 1)).toNatClampNeg) (xs (x3 + (nI 2)).toNatClampNeg) (xs (x3 + (nI 3)).toNatClampNeg) (xs (x3 + (nI 4)).toNatClampNeg) (xs (x3 + (nI 5)).toNatClampNeg) h5) gm_L_57 (by decide) (e_32 E _) rfl rfl hl.1 (law_room hW (by decide) (by decide)) (Nat.le_of_ble_eq_true rfl) rfl dL_law_520) (fun H locs hH => ?_)
  clear h5
  refine lv_icmp_eq (tgt := 1110) hx hb dL_law_523 (by decide) (fun c0 => ?_) (fun c0 => ?_)
  · replace hf := ite_t c0 hf
    obtain ⟨y7, ex, hf⟩ := bnd_go hf
    refine lv_iinc (v := y7) (lv' := [(3, .int y7), (0, .ref bs), (1, .ref (bb E 0)), (2, .ref (bb E 32))]) hx hb dL_law_1110 hl (k := 3) rfl (by rw [ex]; rfl) (by decide) rfl (fun ls hl => ?_)
    clear ex
    refine lv_goto (tgt := 18) hx hb dL_law_1113 (by decide) ?_
    exact hk18 S4 y7 hf _ _ hH _ (lv_sub hl [1, 2, 3, 0] rfl)
  · replace hf := ite_f c0 hf
    refine lv_iconst (v := (nI 0)) hx hb dL_law_526 (by decide) ?_
    exact law_ret X hH hW hf dL_law_527
set_option maxRecDepth 100000 in
set_option maxHeartbeats 4000000 in
theorem w_L_law_402 {p : Program} {l : Launch} {e : Env} {s : State} {m : MethodId} {below : List Frame} {meth : Method} {c : Code} {E : Ev} {S1 : St} {cells slots bs : Nat} (X : GX p s m meth c #[Value.ref bs] cL_law 4 ret RL E) (N : Nat) (xs : Nat → Int32) (L : Nat) (hW : LW E s bs L xs cells slots) (k18 : St → Int32 → Option (Int32 × St)) (hk18 : ∀ (S : St) (x3 : Int32), k18 S x3 = some ((1 : Int32), S1) → ∀ (H : Heap) (locs : List Loc), HH E S s H locs → ∀ ls : Array Slot, lv_has ls 4 [(0, .ref bs), (1, .ref (bb E 0)), (2, .ref (bb E 32)), (3, .int x3)] → W p l e room_1 s m #[Value.ref bs] below meth c H locs cells slots (lw_Z below #[Value.ref bs] s) (F0 m 18 ls [])) : ∀ (S : St) (x3 : Int32), f_L_law_402 N xs L k18 S x3 = some ((1 : Int32), S1) → ∀ (H : Heap) (locs : List Loc), HH E S s H locs → ∀ ls : Array Slot, lv_has ls 4 [(0, .ref bs), (1, .ref (bb E 0)), (2, .ref (bb E 32)), (3, .int x3)] → W p l e room_1 s m #[Value.ref bs] below meth c H locs cells slots (lw_Z below #[Value.ref bs] s) (F0 m 402 ls []) := by
  have hx := X.1
  have hb := X.2.1
  have hX := hW.1
  have hbl := hW.2.1
  have hbA := LW_A hW
  intro S x3 hf H locs hH ls hl
  rw [f_L_law_402] at hf
  refine lv_aload_n hx hb dL_law_402 rfl (lv_at hl 1 rfl) ?_
  refine lv_aload_n hx hb dL_law_403 rfl (lv_at hl 0 rfl) ?_
  refine lv_iload_n hx hb dL_law_404 rfl (lv_at hl 3 rfl) ?_
  refine lv_iconst (v := (nI 1)) hx hb dL_law_405 (by decide) ?_
  refine lv_iadd hx hb dL_law_406 ?_
  obtain ⟨g, hf⟩ := ite_g hf
  refine va_sld hx hb hX hbl hbA hH.2 (inb_in g) dL_law_407 ?_
  refine lv_aload_n hx hb dL_law_408 rfl (lv_at hl 0 rfl) ?_
  refine lv_iload_n hx hb dL_law_409 rfl (lv_at hl 3 rfl) ?_
  refine lv_iconst (v := (nI 2)) hx hb dL_law_410 (by decide) ?_
  refine lv_iadd hx hb dL_law_411 ?_
  obtain ⟨g, hf⟩ := ite_g hf
  refine va_sld hx hb hX hbl hbA hH.2 (inb_in g) dL_law_412 ?_
  refine lv_aload_n hx hb dL_law_413 rfl (lv_at hl 0 rfl) ?_
  refine lv_iload_n hx hb dL_law_414 rfl (lv_at hl 3 rfl) ?_
  refine lv_iconst (v := (nI 3)) hx hb dL_law_415 (by decide) ?_
  refine lv_iadd hx hb dL_law_416 ?_
  obtain ⟨g, hf⟩ := ite_g hf
  refine va_sld hx hb hX hbl hbA hH.2 (inb_in g) dL_law_417 ?_
  refine lv_aload_n hx hb dL_law_418 rfl (lv_at hl 0 rfl) ?_
  refine lv_iload_n hx hb dL_law_419 rfl (lv_at hl 3 rfl) ?_
  refine lv_iconst (v := (nI 4)) hx hb dL_law_420 (by decide) ?_
  refine lv_iadd hx hb dL_law_421 ?_
  obtain ⟨g, hf⟩ := ite_g hf
  refine va_sld hx hb hX hbl hbA hH.2 (inb_in g) dL_law_422 ?_
  refine lv_aload_n hx hb dL_law_423 rfl (lv_at hl 0 rfl) ?_
  refine lv_iload_n hx hb dL_law_424 rfl (lv_at hl 3 rfl) ?_
  refine lv_iconst (v := (nI 5)) hx hb dL_law_425 (by decide) ?_
  refine lv_iadd hx hb dL_law_426 ?_
  obtain ⟨g, hf⟩ := ite_g hf
  refine va_sld hx hb hX hbl hbA hH.2 (inb_in g) dL_law_427 ?_
  obtain ⟨r3, S1, h2, hf⟩ := cal_g hf
  refine go_i hH (run_V X hH (rest := []) (c_X6_row N S (xs (x3 + (nI 1)).toNatClampNeg) (xs (x3 + (nI 2)).toNatClampNeg) (xs (x3 + (nI 3)).toNatClampNeg) (xs (x3 + (nI 4)).toNatClampNeg) (xs (x3 + (nI 5)).toNatClampNeg) h2) gm_L_49 (by decide) (e_0 E _) rfl rfl hl.1 (law_room hW (by decide) (by decide)) (Nat.le_of_ble_eq_true rfl) rfl dL_law_428) (fun H locs hH => ?_)
  clear h2
  refine lv_aload_n hx hb dL_law_431 rfl (lv_at hl 2 rfl) ?_
  refine lv_aload_n hx hb dL_law_432 rfl (lv_at hl 0 rfl) ?_
  refine lv_iload_n hx hb dL_law_433 rfl (lv_at hl 3 rfl) ?_
  refine lv_iconst (v := (nI 1)) hx hb dL_law_434 (by decide) ?_
  refine lv_iadd hx hb dL_law_435 ?_
  obtain ⟨g, hf⟩ := ite_g hf
  refine va_sld hx hb hX hbl hbA hH.2 (inb_in g) dL_law_436 ?_
  refine lv_aload_n hx hb dL_law_437 rfl (lv_at hl 0 rfl) ?_
  refine lv_iload_n hx hb dL_law_438 rfl (lv_at hl 3 rfl) ?_
  refine lv_iconst (v := (nI 2)) hx hb dL_law_439 (by decide) ?_
  refine lv_iadd hx hb dL_law_440 ?_
  obtain ⟨g, hf⟩ := ite_g hf
  refine va_sld hx hb hX hbl hbA hH.2 (inb_in g) dL_law_441 ?_
  refine lv_aload_n hx hb dL_law_442 rfl (lv_at hl 0 rfl) ?_
  refine lv_iload_n hx hb dL_law_443 rfl (lv_at hl 3 rfl) ?_
  refine lv_iconst (v := (nI 3)) hx hb dL_law_444 (by decide) ?_
  refine lv_iadd hx hb dL_law_445 ?_
  obtain ⟨g, hf⟩ := ite_g hf
  refine va_sld hx hb hX hbl hbA hH.2 (inb_in g) dL_law_446 ?_
  refine lv_aload_n hx hb dL_law_447 rfl (lv_at hl 0 rfl) ?_
  refine lv_iload_n hx hb dL_law_448 rfl (lv_at hl 3 rfl) ?_
  refine lv_iconst (v := (nI 4)) hx hb dL_law_449 (by decide) ?_
  refine lv_iadd hx hb dL_law_450 ?_
  obtain ⟨g, hf⟩ := ite_g hf
  refine va_sld hx hb hX hbl hbA hH.2 (inb_in g) dL_law_451 ?_
  refine lv_aload_n hx hb dL_law_452 rfl (lv_at hl 0 rfl) ?_
  refine lv_iload_n hx hb dL_law_453 rfl (lv_at hl 3 rfl) ?_
  refine lv_iconst (v := (nI 5)) hx hb dL_law_454 (by decide) ?_
  refine lv_iadd hx hb dL_law_455 ?_
  obtain ⟨g, hf⟩ := ite_g hf
  refine va_sld hx hb hX hbl hbA hH.2 (inb_in g) dL_law_456 ?_
  obtain ⟨r6, S4, h5, hf⟩ := cal_g hf
  refine go_i hH (run_V X hH (rest := [.int r3]) (c_X7_row N S1 (xs (x3 + (nI 1)).toNatClampNeg) (xs (x3 + (nI 2)).toNatClampNeg) (xs (x3 + (nI 3)).toNatClampNeg) (xs (x3 + (nI 4)).toNatClampNeg) (xs (x3 + (nI 5)).toNatClampNeg) h5) gm_L_53 (by decide) (e_32 E _) rfl rfl hl.1 (law_room hW (by decide) (by decide)) (Nat.le_of_ble_eq_true rfl) rfl dL_law_457) (fun H locs hH => ?_)
  clear h5
  refine lv_icmp_eq (tgt := 1110) hx hb dL_law_460 (by decide) (fun c0 => ?_) (fun c0 => ?_)
  · replace hf := ite_t c0 hf
    obtain ⟨y7, ex, hf⟩ := bnd_go hf
    refine lv_iinc (v := y7) (lv' := [(3, .int y7), (0, .ref bs), (1, .ref (bb E 0)), (2, .ref (bb E 32))]) hx hb dL_law_1110 hl (k := 3) rfl (by rw [ex]; rfl) (by decide) rfl (fun ls hl => ?_)
    clear ex
    refine lv_goto (tgt := 18) hx hb dL_law_1113 (by decide) ?_
    exact hk18 S4 y7 hf _ _ hH _ (lv_sub hl [1, 2, 3, 0] rfl)
  · replace hf := ite_f c0 hf
    refine lv_iconst (v := (nI 0)) hx hb dL_law_463 (by decide) ?_
    exact law_ret X hH hW hf dL_law_464
set_option maxRecDepth 100000 in
set_option maxHeartbeats 4000000 in
theorem w_L_law_389 {p : Program} {l : Launch} {e : Env} {s : State} {m : MethodId} {below : List Frame} {meth : Method} {c : Code} {E : Ev} {S1 : St} {cells slots bs : Nat} (X : GX p s m meth c #[Value.ref bs] cL_law 4 ret RL E) (N : Nat) (xs : Nat → Int32) (L : Nat) (hW : LW E s bs L xs cells slots) (k18 : St → Int32 → Option (Int32 × St)) (hk18 : ∀ (S : St) (x3 : Int32), k18 S x3 = some ((1 : Int32), S1) → ∀ (H : Heap) (locs : List Loc), HH E S s H locs → ∀ ls : Array Slot, lv_has ls 4 [(0, .ref bs), (1, .ref (bb E 0)), (2, .ref (bb E 32)), (3, .int x3)] → W p l e room_1 s m #[Value.ref bs] below meth c H locs cells slots (lw_Z below #[Value.ref bs] s) (F0 m 18 ls [])) : ∀ (S : St) (x3 : Int32), f_L_law_389 N xs L k18 S x3 = some ((1 : Int32), S1) → ∀ (H : Heap) (locs : List Loc), HH E S s H locs → ∀ ls : Array Slot, lv_has ls 4 [(0, .ref bs), (1, .ref (bb E 0)), (2, .ref (bb E 32)), (3, .int x3)] → W p l e room_1 s m #[Value.ref bs] below meth c H locs cells slots (lw_Z below #[Value.ref bs] s) (F0 m 389 ls []) := by
  have hx := X.1
  have hb := X.2.1
  have hX := hW.1
  have hbl := hW.2.1
  have hbA := LW_A hW
  intro S x3 hf H locs hH ls hl
  rw [f_L_law_389] at hf
  refine lv_aload_n hx hb dL_law_389 rfl (lv_at hl 1 rfl) ?_
  obtain ⟨r3, S1, h2, hf⟩ := cal_g hf
  refine go_i hH (run_V X hH (rest := []) (c_X6_clear N S h2) gm_L_44 (by decide) (e_0 E _) rfl rfl hl.1 (law_room hW (by decide) (by decide)) (Nat.le_of_ble_eq_true rfl) rfl dL_law_390) (fun H locs hH => ?_)
  clear h2
  refine lv_aload_n hx hb dL_law_393 rfl (lv_at hl 2 rfl) ?_
  obtain ⟨r6, S4, h5, hf⟩ := cal_g hf
  refine go_i hH (run_V X hH (rest := [.int r3]) (c_X7_clear N S1 h5) gm_L_48 (by decide) (e_32 E _) rfl rfl hl.1 (law_room hW (by decide) (by decide)) (Nat.le_of_ble_eq_true rfl) rfl dL_law_394) (fun H locs hH => ?_)
  clear h5
  refine lv_icmp_eq (tgt := 1110) hx hb dL_law_397 (by decide) (fun c0 => ?_) (fun c0 => ?_)
  · replace hf := ite_t c0 hf
    obtain ⟨y7, ex, hf⟩ := bnd_go hf
    refine lv_iinc (v := y7) (lv' := [(3, .int y7), (0, .ref bs), (1, .ref (bb E 0)), (2, .ref (bb E 32))]) hx hb dL_law_1110 hl (k := 3) rfl (by rw [ex]; rfl) (by decide) rfl (fun ls hl => ?_)
    clear ex
    refine lv_goto (tgt := 18) hx hb dL_law_1113 (by decide) ?_
    exact hk18 S4 y7 hf _ _ hH _ (lv_sub hl [1, 2, 3, 0] rfl)
  · replace hf := ite_f c0 hf
    refine lv_iconst (v := (nI 0)) hx hb dL_law_400 (by decide) ?_
    exact law_ret X hH hW hf dL_law_401
set_option maxRecDepth 100000 in
set_option maxHeartbeats 4000000 in
theorem w_L_law_366 {p : Program} {l : Launch} {e : Env} {s : State} {m : MethodId} {below : List Frame} {meth : Method} {c : Code} {E : Ev} {S1 : St} {cells slots bs : Nat} (X : GX p s m meth c #[Value.ref bs] cL_law 4 ret RL E) (N : Nat) (xs : Nat → Int32) (L : Nat) (hW : LW E s bs L xs cells slots) (k18 : St → Int32 → Option (Int32 × St)) (hk18 : ∀ (S : St) (x3 : Int32), k18 S x3 = some ((1 : Int32), S1) → ∀ (H : Heap) (locs : List Loc), HH E S s H locs → ∀ ls : Array Slot, lv_has ls 4 [(0, .ref bs), (1, .ref (bb E 0)), (2, .ref (bb E 32)), (3, .int x3)] → W p l e room_1 s m #[Value.ref bs] below meth c H locs cells slots (lw_Z below #[Value.ref bs] s) (F0 m 18 ls [])) : ∀ (S : St) (x3 : Int32), f_L_law_366 N xs L k18 S x3 = some ((1 : Int32), S1) → ∀ (H : Heap) (locs : List Loc), HH E S s H locs → ∀ ls : Array Slot, lv_has ls 4 [(0, .ref bs), (1, .ref (bb E 0)), (2, .ref (bb E 32)), (3, .int x3)] → W p l e room_1 s m #[Value.ref bs] below meth c H locs cells slots (lw_Z below #[Value.ref bs] s) (F0 m 366 ls []) := by
  have hx := X.1
  have hb := X.2.1
  have hX := hW.1
  have hbl := hW.2.1
  have hbA := LW_A hW
  intro S x3 hf H locs hH ls hl
  rw [f_L_law_366] at hf
  refine lv_aload_n hx hb dL_law_366 rfl (lv_at hl 1 rfl) ?_
  refine lv_aload_n hx hb dL_law_367 rfl (lv_at hl 0 rfl) ?_
  refine lv_iload_n hx hb dL_law_368 rfl (lv_at hl 3 rfl) ?_
  refine lv_iconst (v := (nI 1)) hx hb dL_law_369 (by decide) ?_
  refine lv_iadd hx hb dL_law_370 ?_
  obtain ⟨g, hf⟩ := ite_g hf
  refine va_sld hx hb hX hbl hbA hH.2 (inb_in g) dL_law_371 ?_
  obtain ⟨r3, S1, h2, hf⟩ := cal_g hf
  refine go_i hH (run_V X hH (rest := []) (c_X6_letter N S (xs (x3 + (nI 1)).toNatClampNeg) h2) gm_L_40 (by decide) (e_0 E _) rfl rfl hl.1 (law_room hW (by decide) (by decide)) (Nat.le_of_ble_eq_true rfl) rfl dL_law_372) (fun H locs hH => ?_)
  clear h2
  refine lv_aload_n hx hb dL_law_375 rfl (lv_at hl 2 rfl) ?_
  refine lv_aload_n hx hb dL_law_376 rfl (lv_at hl 0 rfl) ?_
  refine lv_iload_n hx hb dL_law_377 rfl (lv_at hl 3 rfl) ?_
  refine lv_iconst (v := (nI 1)) hx hb dL_law_378 (by decide) ?_
  refine lv_iadd hx hb dL_law_379 ?_
  obtain ⟨g, hf⟩ := ite_g hf
  refine va_sld hx hb hX hbl hbA hH.2 (inb_in g) dL_law_380 ?_
  obtain ⟨r6, S4, h5, hf⟩ := cal_g hf
  refine go_i hH (run_V X hH (rest := [.int r3]) (c_X7_letter N S1 (xs (x3 + (nI 1)).toNatClampNeg) h5) gm_L_43 (by decide) (e_32 E _) rfl rfl hl.1 (law_room hW (by decide) (by decide)) (Nat.le_of_ble_eq_true rfl) rfl dL_law_381) (fun H locs hH => ?_)
  clear h5
  refine lv_icmp_eq (tgt := 1110) hx hb dL_law_384 (by decide) (fun c0 => ?_) (fun c0 => ?_)
  · replace hf := ite_t c0 hf
    obtain ⟨y7, ex, hf⟩ := bnd_go hf
    refine lv_iinc (v := y7) (lv' := [(3, .int y7), (0, .ref bs), (1, .ref (bb E 0)), (2, .ref (bb E 32))]) hx hb dL_law_1110 hl (k := 3) rfl (by rw [ex]; rfl) (by decide) rfl (fun ls hl => ?_)
    clear ex
    refine lv_goto (tgt := 18) hx hb dL_law_1113 (by decide) ?_
    exact hk18 S4 y7 hf _ _ hH _ (lv_sub hl [1, 2, 3, 0] rfl)
  · replace hf := ite_f c0 hf
    refine lv_iconst (v := (nI 0)) hx hb dL_law_387 (by decide) ?_
    exact law_ret X hH hW hf dL_law_388
set_option maxRecDepth 100000 in
set_option maxHeartbeats 4000000 in
theorem w_L_law_343 {p : Program} {l : Launch} {e : Env} {s : State} {m : MethodId} {below : List Frame} {meth : Method} {c : Code} {E : Ev} {S1 : St} {cells slots bs : Nat} (X : GX p s m meth c #[Value.ref bs] cL_law 4 ret RL E) (N : Nat) (xs : Nat → Int32) (L : Nat) (hW : LW E s bs L xs cells slots) (k18 : St → Int32 → Option (Int32 × St)) (hk18 : ∀ (S : St) (x3 : Int32), k18 S x3 = some ((1 : Int32), S1) → ∀ (H : Heap) (locs : List Loc), HH E S s H locs → ∀ ls : Array Slot, lv_has ls 4 [(0, .ref bs), (1, .ref (bb E 0)), (2, .ref (bb E 32)), (3, .int x3)] → W p l e room_1 s m #[Value.ref bs] below meth c H locs cells slots (lw_Z below #[Value.ref bs] s) (F0 m 18 ls [])) : ∀ (S : St) (x3 : Int32), f_L_law_343 N xs L k18 S x3 = some ((1 : Int32), S1) → ∀ (H : Heap) (locs : List Loc), HH E S s H locs → ∀ ls : Array Slot, lv_has ls 4 [(0, .ref bs), (1, .ref (bb E 0)), (2, .ref (bb E 32)), (3, .int x3)] → W p l e room_1 s m #[Value.ref bs] below meth c H locs cells slots (lw_Z below #[Value.ref bs] s) (F0 m 343 ls []) := by
  have hx := X.1
  have hb := X.2.1
  have hX := hW.1
  have hbl := hW.2.1
  have hbA := LW_A hW
  intro S x3 hf H locs hH ls hl
  rw [f_L_law_343] at hf
  refine lv_aload_n hx hb dL_law_343 rfl (lv_at hl 1 rfl) ?_
  refine lv_aload_n hx hb dL_law_344 rfl (lv_at hl 0 rfl) ?_
  refine lv_iload_n hx hb dL_law_345 rfl (lv_at hl 3 rfl) ?_
  refine lv_iconst (v := (nI 1)) hx hb dL_law_346 (by decide) ?_
  refine lv_iadd hx hb dL_law_347 ?_
  obtain ⟨g, hf⟩ := ite_g hf
  refine va_sld hx hb hX hbl hbA hH.2 (inb_in g) dL_law_348 ?_
  obtain ⟨r3, S1, h2, hf⟩ := cal_g hf
  refine go_i hH (run_V X hH (rest := []) (c_X6_play N S (xs (x3 + (nI 1)).toNatClampNeg) h2) gm_L_36 (by decide) (e_0 E _) rfl rfl hl.1 (law_room hW (by decide) (by decide)) (Nat.le_of_ble_eq_true rfl) rfl dL_law_349) (fun H locs hH => ?_)
  clear h2
  refine lv_aload_n hx hb dL_law_352 rfl (lv_at hl 2 rfl) ?_
  refine lv_aload_n hx hb dL_law_353 rfl (lv_at hl 0 rfl) ?_
  refine lv_iload_n hx hb dL_law_354 rfl (lv_at hl 3 rfl) ?_
  refine lv_iconst (v := (nI 1)) hx hb dL_law_355 (by decide) ?_
  refine lv_iadd hx hb dL_law_356 ?_
  obtain ⟨g, hf⟩ := ite_g hf
  refine va_sld hx hb hX hbl hbA hH.2 (inb_in g) dL_law_357 ?_
  obtain ⟨r6, S4, h5, hf⟩ := cal_g hf
  refine go_i hH (run_V X hH (rest := [.int r3]) (c_X7_play N S1 (xs (x3 + (nI 1)).toNatClampNeg) h5) gm_L_39 (by decide) (e_32 E _) rfl rfl hl.1 (law_room hW (by decide) (by decide)) (Nat.le_of_ble_eq_true rfl) rfl dL_law_358) (fun H locs hH => ?_)
  clear h5
  refine lv_icmp_eq (tgt := 1110) hx hb dL_law_361 (by decide) (fun c0 => ?_) (fun c0 => ?_)
  · replace hf := ite_t c0 hf
    obtain ⟨y7, ex, hf⟩ := bnd_go hf
    refine lv_iinc (v := y7) (lv' := [(3, .int y7), (0, .ref bs), (1, .ref (bb E 0)), (2, .ref (bb E 32))]) hx hb dL_law_1110 hl (k := 3) rfl (by rw [ex]; rfl) (by decide) rfl (fun ls hl => ?_)
    clear ex
    refine lv_goto (tgt := 18) hx hb dL_law_1113 (by decide) ?_
    exact hk18 S4 y7 hf _ _ hH _ (lv_sub hl [1, 2, 3, 0] rfl)
  · replace hf := ite_f c0 hf
    refine lv_iconst (v := (nI 0)) hx hb dL_law_364 (by decide) ?_
    exact law_ret X hH hW hf dL_law_365
set_option maxRecDepth 100000 in
set_option maxHeartbeats 4000000 in
theorem w_L_law_320 {p : Program} {l : Launch} {e : Env} {s : State} {m : MethodId} {below : List Frame} {meth : Method} {c : Code} {E : Ev} {S1 : St} {cells slots bs : Nat} (X : GX p s m meth c #[Value.ref bs] cL_law 4 ret RL E) (N : Nat) (xs : Nat → Int32) (L : Nat) (hW : LW E s bs L xs cells slots) (k18 : St → Int32 → Option (Int32 × St)) (hk18 : ∀ (S : St) (x3 : Int32), k18 S x3 = some ((1 : Int32), S1) → ∀ (H : Heap) (locs : List Loc), HH E S s H locs → ∀ ls : Array Slot, lv_has ls 4 [(0, .ref bs), (1, .ref (bb E 0)), (2, .ref (bb E 32)), (3, .int x3)] → W p l e room_1 s m #[Value.ref bs] below meth c H locs cells slots (lw_Z below #[Value.ref bs] s) (F0 m 18 ls [])) : ∀ (S : St) (x3 : Int32), f_L_law_320 N xs L k18 S x3 = some ((1 : Int32), S1) → ∀ (H : Heap) (locs : List Loc), HH E S s H locs → ∀ ls : Array Slot, lv_has ls 4 [(0, .ref bs), (1, .ref (bb E 0)), (2, .ref (bb E 32)), (3, .int x3)] → W p l e room_1 s m #[Value.ref bs] below meth c H locs cells slots (lw_Z below #[Value.ref bs] s) (F0 m 320 ls []) := by
  have hx := X.1
  have hb := X.2.1
  have hX := hW.1
  have hbl := hW.2.1
  have hbA := LW_A hW
  intro S x3 hf H locs hH ls hl
  rw [f_L_law_320] at hf
  refine lv_aload_n hx hb dL_law_320 rfl (lv_at hl 1 rfl) ?_
  refine lv_aload_n hx hb dL_law_321 rfl (lv_at hl 0 rfl) ?_
  refine lv_iload_n hx hb dL_law_322 rfl (lv_at hl 3 rfl) ?_
  refine lv_iconst (v := (nI 1)) hx hb dL_law_323 (by decide) ?_
  refine lv_iadd hx hb dL_law_324 ?_
  obtain ⟨g, hf⟩ := ite_g hf
  refine va_sld hx hb hX hbl hbA hH.2 (inb_in g) dL_law_325 ?_
  obtain ⟨r3, S1, h2, hf⟩ := cal_g hf
  refine go_i hH (run_V X hH (rest := []) (c_X6_press N S (xs (x3 + (nI 1)).toNatClampNeg) h2) gm_L_31 (by decide) (e_0 E _) rfl rfl hl.1 (law_room hW (by decide) (by decide)) (Nat.le_of_ble_eq_true rfl) rfl dL_law_326) (fun H locs hH => ?_)
  clear h2
  refine lv_aload_n hx hb dL_law_329 rfl (lv_at hl 2 rfl) ?_
  refine lv_aload_n hx hb dL_law_330 rfl (lv_at hl 0 rfl) ?_
  refine lv_iload_n hx hb dL_law_331 rfl (lv_at hl 3 rfl) ?_
  refine lv_iconst (v := (nI 1)) hx hb dL_law_332 (by decide) ?_
  refine lv_iadd hx hb dL_law_333 ?_
  obtain ⟨g, hf⟩ := ite_g hf
  refine va_sld hx hb hX hbl hbA hH.2 (inb_in g) dL_law_334 ?_
  obtain ⟨r6, S4, h5, hf⟩ := cal_g hf
  refine go_i hH (run_V X hH (rest := [.int r3]) (c_X7_press N S1 (xs (x3 + (nI 1)).toNatClampNeg) h5) gm_L_35 (by decide) (e_32 E _) rfl rfl hl.1 (law_room hW (by decide) (by decide)) (Nat.le_of_ble_eq_true rfl) rfl dL_law_335) (fun H locs hH => ?_)
  clear h5
  refine lv_icmp_eq (tgt := 1110) hx hb dL_law_338 (by decide) (fun c0 => ?_) (fun c0 => ?_)
  · replace hf := ite_t c0 hf
    obtain ⟨y7, ex, hf⟩ := bnd_go hf
    refine lv_iinc (v := y7) (lv' := [(3, .int y7), (0, .ref bs), (1, .ref (bb E 0)), (2, .ref (bb E 32))]) hx hb dL_law_1110 hl (k := 3) rfl (by rw [ex]; rfl) (by decide) rfl (fun ls hl => ?_)
    clear ex
    refine lv_goto (tgt := 18) hx hb dL_law_1113 (by decide) ?_
    exact hk18 S4 y7 hf _ _ hH _ (lv_sub hl [1, 2, 3, 0] rfl)
  · replace hf := ite_f c0 hf
    refine lv_iconst (v := (nI 0)) hx hb dL_law_341 (by decide) ?_
    exact law_ret X hH hW hf dL_law_342
set_option maxRecDepth 100000 in
set_option maxHeartbeats 4000000 in
theorem w_L_law_287 {p : Program} {l : Launch} {e : Env} {s : State} {m : MethodId} {below : List Frame} {meth : Method} {c : Code} {E : Ev} {S1 : St} {cells slots bs : Nat} (X : GX p s m meth c #[Value.ref bs] cL_law 4 ret RL E) (N : Nat) (xs : Nat → Int32) (L : Nat) (hW : LW E s bs L xs cells slots) (k18 : St → Int32 → Option (Int32 × St)) (hk18 : ∀ (S : St) (x3 : Int32), k18 S x3 = some ((1 : Int32), S1) → ∀ (H : Heap) (locs : List Loc), HH E S s H locs → ∀ ls : Array Slot, lv_has ls 4 [(0, .ref bs), (1, .ref (bb E 0)), (2, .ref (bb E 32)), (3, .int x3)] → W p l e room_1 s m #[Value.ref bs] below meth c H locs cells slots (lw_Z below #[Value.ref bs] s) (F0 m 18 ls [])) : ∀ (S : St) (x3 : Int32), f_L_law_287 N xs L k18 S x3 = some ((1 : Int32), S1) → ∀ (H : Heap) (locs : List Loc), HH E S s H locs → ∀ ls : Array Slot, lv_has ls 4 [(0, .ref bs), (1, .ref (bb E 0)), (2, .ref (bb E 32)), (3, .int x3)] → W p l e room_1 s m #[Value.ref bs] below meth c H locs cells slots (lw_Z below #[Value.ref bs] s) (F0 m 287 ls []) := by
  have hx := X.1
  have hb := X.2.1
  have hX := hW.1
  have hbl := hW.2.1
  have hbA := LW_A hW
  intro S x3 hf H locs hH ls hl
  rw [f_L_law_287] at hf
  refine lv_aload_n hx hb dL_law_287 rfl (lv_at hl 1 rfl) ?_
  refine lv_aload_n hx hb dL_law_288 rfl (lv_at hl 0 rfl) ?_
  refine lv_iload_n hx hb dL_law_289 rfl (lv_at hl 3 rfl) ?_
  refine lv_iconst (v := (nI 1)) hx hb dL_law_290 (by decide) ?_
  refine lv_iadd hx hb dL_law_291 ?_
  obtain ⟨g, hf⟩ := ite_g hf
  refine va_sld hx hb hX hbl hbA hH.2 (inb_in g) dL_law_292 ?_
  refine lv_aload_n hx hb dL_law_293 rfl (lv_at hl 0 rfl) ?_
  refine lv_iload_n hx hb dL_law_294 rfl (lv_at hl 3 rfl) ?_
  refine lv_iconst (v := (nI 2)) hx hb dL_law_295 (by decide) ?_
  refine lv_iadd hx hb dL_law_296 ?_
  obtain ⟨g, hf⟩ := ite_g hf
  refine va_sld hx hb hX hbl hbA hH.2 (inb_in g) dL_law_297 ?_
  obtain ⟨r3, S1, h2, hf⟩ := cal_g hf
  refine go_i hH (run_V X hH (rest := []) (c_X6_times N S (xs (x3 + (nI 1)).toNatClampNeg) (xs (x3 + (nI 2)).toNatClampNeg) h2) gm_L_27 (by decide) (e_0 E _) rfl rfl hl.1 (law_room hW (by decide) (by decide)) (Nat.le_of_ble_eq_true rfl) rfl dL_law_298) (fun H locs hH => ?_)
  clear h2
  refine lv_aload_n hx hb dL_law_301 rfl (lv_at hl 2 rfl) ?_
  refine lv_aload_n hx hb dL_law_302 rfl (lv_at hl 0 rfl) ?_
  refine lv_iload_n hx hb dL_law_303 rfl (lv_at hl 3 rfl) ?_
  refine lv_iconst (v := (nI 1)) hx hb dL_law_304 (by decide) ?_
  refine lv_iadd hx hb dL_law_305 ?_
  obtain ⟨g, hf⟩ := ite_g hf
  refine va_sld hx hb hX hbl hbA hH.2 (inb_in g) dL_law_306 ?_
  refine lv_aload_n hx hb dL_law_307 rfl (lv_at hl 0 rfl) ?_
  refine lv_iload_n hx hb dL_law_308 rfl (lv_at hl 3 rfl) ?_
  refine lv_iconst (v := (nI 2)) hx hb dL_law_309 (by decide) ?_
  refine lv_iadd hx hb dL_law_310 ?_
  obtain ⟨g, hf⟩ := ite_g hf
  refine va_sld hx hb hX hbl hbA hH.2 (inb_in g) dL_law_311 ?_
  obtain ⟨r6, S4, h5, hf⟩ := cal_g hf
  refine go_i hH (run_V X hH (rest := [.int r3]) (c_X7_times N S1 (xs (x3 + (nI 1)).toNatClampNeg) (xs (x3 + (nI 2)).toNatClampNeg) h5) gm_L_30 (by decide) (e_32 E _) rfl rfl hl.1 (law_room hW (by decide) (by decide)) (Nat.le_of_ble_eq_true rfl) rfl dL_law_312) (fun H locs hH => ?_)
  clear h5
  refine lv_icmp_eq (tgt := 1110) hx hb dL_law_315 (by decide) (fun c0 => ?_) (fun c0 => ?_)
  · replace hf := ite_t c0 hf
    obtain ⟨y7, ex, hf⟩ := bnd_go hf
    refine lv_iinc (v := y7) (lv' := [(3, .int y7), (0, .ref bs), (1, .ref (bb E 0)), (2, .ref (bb E 32))]) hx hb dL_law_1110 hl (k := 3) rfl (by rw [ex]; rfl) (by decide) rfl (fun ls hl => ?_)
    clear ex
    refine lv_goto (tgt := 18) hx hb dL_law_1113 (by decide) ?_
    exact hk18 S4 y7 hf _ _ hH _ (lv_sub hl [1, 2, 3, 0] rfl)
  · replace hf := ite_f c0 hf
    refine lv_iconst (v := (nI 0)) hx hb dL_law_318 (by decide) ?_
    exact law_ret X hH hW hf dL_law_319
set_option maxRecDepth 100000 in
set_option maxHeartbeats 4000000 in
theorem w_L_law_254 {p : Program} {l : Launch} {e : Env} {s : State} {m : MethodId} {below : List Frame} {meth : Method} {c : Code} {E : Ev} {S1 : St} {cells slots bs : Nat} (X : GX p s m meth c #[Value.ref bs] cL_law 4 ret RL E) (N : Nat) (xs : Nat → Int32) (L : Nat) (hW : LW E s bs L xs cells slots) (k18 : St → Int32 → Option (Int32 × St)) (hk18 : ∀ (S : St) (x3 : Int32), k18 S x3 = some ((1 : Int32), S1) → ∀ (H : Heap) (locs : List Loc), HH E S s H locs → ∀ ls : Array Slot, lv_has ls 4 [(0, .ref bs), (1, .ref (bb E 0)), (2, .ref (bb E 32)), (3, .int x3)] → W p l e room_1 s m #[Value.ref bs] below meth c H locs cells slots (lw_Z below #[Value.ref bs] s) (F0 m 18 ls [])) : ∀ (S : St) (x3 : Int32), f_L_law_254 N xs L k18 S x3 = some ((1 : Int32), S1) → ∀ (H : Heap) (locs : List Loc), HH E S s H locs → ∀ ls : Array Slot, lv_has ls 4 [(0, .ref bs), (1, .ref (bb E 0)), (2, .ref (bb E 32)), (3, .int x3)] → W p l e room_1 s m #[Value.ref bs] below meth c H locs cells slots (lw_Z below #[Value.ref bs] s) (F0 m 254 ls []) := by
  have hx := X.1
  have hb := X.2.1
  have hX := hW.1
  have hbl := hW.2.1
  have hbA := LW_A hW
  intro S x3 hf H locs hH ls hl
  rw [f_L_law_254] at hf
  refine lv_aload_n hx hb dL_law_254 rfl (lv_at hl 1 rfl) ?_
  refine lv_aload_n hx hb dL_law_255 rfl (lv_at hl 0 rfl) ?_
  refine lv_iload_n hx hb dL_law_256 rfl (lv_at hl 3 rfl) ?_
  refine lv_iconst (v := (nI 1)) hx hb dL_law_257 (by decide) ?_
  refine lv_iadd hx hb dL_law_258 ?_
  obtain ⟨g, hf⟩ := ite_g hf
  refine va_sld hx hb hX hbl hbA hH.2 (inb_in g) dL_law_259 ?_
  refine lv_aload_n hx hb dL_law_260 rfl (lv_at hl 0 rfl) ?_
  refine lv_iload_n hx hb dL_law_261 rfl (lv_at hl 3 rfl) ?_
  refine lv_iconst (v := (nI 2)) hx hb dL_law_262 (by decide) ?_
  refine lv_iadd hx hb dL_law_263 ?_
  obtain ⟨g, hf⟩ := ite_g hf
  refine va_sld hx hb hX hbl hbA hH.2 (inb_in g) dL_law_264 ?_
  obtain ⟨r3, S1, h2, hf⟩ := cal_g hf
  refine go_i hH (run_V X hH (rest := []) (c_X6_key N S (xs (x3 + (nI 1)).toNatClampNeg) (xs (x3 + (nI 2)).toNatClampNeg) h2) gm_L_23 (by decide) (e_0 E _) rfl rfl hl.1 (law_room hW (by decide) (by decide)) (Nat.le_of_ble_eq_true rfl) rfl dL_law_265) (fun H locs hH => ?_)
  clear h2
  refine lv_aload_n hx hb dL_law_268 rfl (lv_at hl 2 rfl) ?_
  refine lv_aload_n hx hb dL_law_269 rfl (lv_at hl 0 rfl) ?_
  refine lv_iload_n hx hb dL_law_270 rfl (lv_at hl 3 rfl) ?_
  refine lv_iconst (v := (nI 1)) hx hb dL_law_271 (by decide) ?_
  refine lv_iadd hx hb dL_law_272 ?_
  obtain ⟨g, hf⟩ := ite_g hf
  refine va_sld hx hb hX hbl hbA hH.2 (inb_in g) dL_law_273 ?_
  refine lv_aload_n hx hb dL_law_274 rfl (lv_at hl 0 rfl) ?_
  refine lv_iload_n hx hb dL_law_275 rfl (lv_at hl 3 rfl) ?_
  refine lv_iconst (v := (nI 2)) hx hb dL_law_276 (by decide) ?_
  refine lv_iadd hx hb dL_law_277 ?_
  obtain ⟨g, hf⟩ := ite_g hf
  refine va_sld hx hb hX hbl hbA hH.2 (inb_in g) dL_law_278 ?_
  obtain ⟨r6, S4, h5, hf⟩ := cal_g hf
  refine go_i hH (run_V X hH (rest := [.int r3]) (c_X7_key N S1 (xs (x3 + (nI 1)).toNatClampNeg) (xs (x3 + (nI 2)).toNatClampNeg) h5) gm_L_26 (by decide) (e_32 E _) rfl rfl hl.1 (law_room hW (by decide) (by decide)) (Nat.le_of_ble_eq_true rfl) rfl dL_law_279) (fun H locs hH => ?_)
  clear h5
  refine lv_icmp_eq (tgt := 1110) hx hb dL_law_282 (by decide) (fun c0 => ?_) (fun c0 => ?_)
  · replace hf := ite_t c0 hf
    obtain ⟨y7, ex, hf⟩ := bnd_go hf
    refine lv_iinc (v := y7) (lv' := [(3, .int y7), (0, .ref bs), (1, .ref (bb E 0)), (2, .ref (bb E 32))]) hx hb dL_law_1110 hl (k := 3) rfl (by rw [ex]; rfl) (by decide) rfl (fun ls hl => ?_)
    clear ex
    refine lv_goto (tgt := 18) hx hb dL_law_1113 (by decide) ?_
    exact hk18 S4 y7 hf _ _ hH _ (lv_sub hl [1, 2, 3, 0] rfl)
  · replace hf := ite_f c0 hf
    refine lv_iconst (v := (nI 0)) hx hb dL_law_285 (by decide) ?_
    exact law_ret X hH hW hf dL_law_286
set_option maxRecDepth 100000 in
set_option maxHeartbeats 4000000 in
theorem w_L_law_221 {p : Program} {l : Launch} {e : Env} {s : State} {m : MethodId} {below : List Frame} {meth : Method} {c : Code} {E : Ev} {S1 : St} {cells slots bs : Nat} (X : GX p s m meth c #[Value.ref bs] cL_law 4 ret RL E) (N : Nat) (xs : Nat → Int32) (L : Nat) (hW : LW E s bs L xs cells slots) (k18 : St → Int32 → Option (Int32 × St)) (hk18 : ∀ (S : St) (x3 : Int32), k18 S x3 = some ((1 : Int32), S1) → ∀ (H : Heap) (locs : List Loc), HH E S s H locs → ∀ ls : Array Slot, lv_has ls 4 [(0, .ref bs), (1, .ref (bb E 0)), (2, .ref (bb E 32)), (3, .int x3)] → W p l e room_1 s m #[Value.ref bs] below meth c H locs cells slots (lw_Z below #[Value.ref bs] s) (F0 m 18 ls [])) : ∀ (S : St) (x3 : Int32), f_L_law_221 N xs L k18 S x3 = some ((1 : Int32), S1) → ∀ (H : Heap) (locs : List Loc), HH E S s H locs → ∀ ls : Array Slot, lv_has ls 4 [(0, .ref bs), (1, .ref (bb E 0)), (2, .ref (bb E 32)), (3, .int x3)] → W p l e room_1 s m #[Value.ref bs] below meth c H locs cells slots (lw_Z below #[Value.ref bs] s) (F0 m 221 ls []) := by
  have hx := X.1
  have hb := X.2.1
  have hX := hW.1
  have hbl := hW.2.1
  have hbA := LW_A hW
  intro S x3 hf H locs hH ls hl
  rw [f_L_law_221] at hf
  refine lv_aload_n hx hb dL_law_221 rfl (lv_at hl 1 rfl) ?_
  refine lv_aload_n hx hb dL_law_222 rfl (lv_at hl 0 rfl) ?_
  refine lv_iload_n hx hb dL_law_223 rfl (lv_at hl 3 rfl) ?_
  refine lv_iconst (v := (nI 1)) hx hb dL_law_224 (by decide) ?_
  refine lv_iadd hx hb dL_law_225 ?_
  obtain ⟨g, hf⟩ := ite_g hf
  refine va_sld hx hb hX hbl hbA hH.2 (inb_in g) dL_law_226 ?_
  refine lv_aload_n hx hb dL_law_227 rfl (lv_at hl 0 rfl) ?_
  refine lv_iload_n hx hb dL_law_228 rfl (lv_at hl 3 rfl) ?_
  refine lv_iconst (v := (nI 2)) hx hb dL_law_229 (by decide) ?_
  refine lv_iadd hx hb dL_law_230 ?_
  obtain ⟨g, hf⟩ := ite_g hf
  refine va_sld hx hb hX hbl hbA hH.2 (inb_in g) dL_law_231 ?_
  obtain ⟨r3, S1, h2, hf⟩ := cal_g hf
  refine go_i hH (run_V X hH (rest := []) (c_X6_ofMacro N S (xs (x3 + (nI 1)).toNatClampNeg) (xs (x3 + (nI 2)).toNatClampNeg) h2) gm_L_18 (by decide) (e_0 E _) rfl rfl hl.1 (law_room hW (by decide) (by decide)) (Nat.le_of_ble_eq_true rfl) rfl dL_law_232) (fun H locs hH => ?_)
  clear h2
  refine lv_aload_n hx hb dL_law_235 rfl (lv_at hl 2 rfl) ?_
  refine lv_aload_n hx hb dL_law_236 rfl (lv_at hl 0 rfl) ?_
  refine lv_iload_n hx hb dL_law_237 rfl (lv_at hl 3 rfl) ?_
  refine lv_iconst (v := (nI 1)) hx hb dL_law_238 (by decide) ?_
  refine lv_iadd hx hb dL_law_239 ?_
  obtain ⟨g, hf⟩ := ite_g hf
  refine va_sld hx hb hX hbl hbA hH.2 (inb_in g) dL_law_240 ?_
  refine lv_aload_n hx hb dL_law_241 rfl (lv_at hl 0 rfl) ?_
  refine lv_iload_n hx hb dL_law_242 rfl (lv_at hl 3 rfl) ?_
  refine lv_iconst (v := (nI 2)) hx hb dL_law_243 (by decide) ?_
  refine lv_iadd hx hb dL_law_244 ?_
  obtain ⟨g, hf⟩ := ite_g hf
  refine va_sld hx hb hX hbl hbA hH.2 (inb_in g) dL_law_245 ?_
  obtain ⟨r6, S4, h5, hf⟩ := cal_g hf
  refine go_i hH (run_V X hH (rest := [.int r3]) (c_X7_ofMacro N S1 (xs (x3 + (nI 1)).toNatClampNeg) (xs (x3 + (nI 2)).toNatClampNeg) h5) gm_L_22 (by decide) (e_32 E _) rfl rfl hl.1 (law_room hW (by decide) (by decide)) (Nat.le_of_ble_eq_true rfl) rfl dL_law_246) (fun H locs hH => ?_)
  clear h5
  refine lv_icmp_eq (tgt := 1110) hx hb dL_law_249 (by decide) (fun c0 => ?_) (fun c0 => ?_)
  · replace hf := ite_t c0 hf
    obtain ⟨y7, ex, hf⟩ := bnd_go hf
    refine lv_iinc (v := y7) (lv' := [(3, .int y7), (0, .ref bs), (1, .ref (bb E 0)), (2, .ref (bb E 32))]) hx hb dL_law_1110 hl (k := 3) rfl (by rw [ex]; rfl) (by decide) rfl (fun ls hl => ?_)
    clear ex
    refine lv_goto (tgt := 18) hx hb dL_law_1113 (by decide) ?_
    exact hk18 S4 y7 hf _ _ hH _ (lv_sub hl [1, 2, 3, 0] rfl)
  · replace hf := ite_f c0 hf
    refine lv_iconst (v := (nI 0)) hx hb dL_law_252 (by decide) ?_
    exact law_ret X hH hW hf dL_law_253
set_option maxRecDepth 100000 in
set_option maxHeartbeats 4000000 in
theorem w_L_law_168 {p : Program} {l : Launch} {e : Env} {s : State} {m : MethodId} {below : List Frame} {meth : Method} {c : Code} {E : Ev} {S1 : St} {cells slots bs : Nat} (X : GX p s m meth c #[Value.ref bs] cL_law 4 ret RL E) (N : Nat) (xs : Nat → Int32) (L : Nat) (hW : LW E s bs L xs cells slots) (k18 : St → Int32 → Option (Int32 × St)) (hk18 : ∀ (S : St) (x3 : Int32), k18 S x3 = some ((1 : Int32), S1) → ∀ (H : Heap) (locs : List Loc), HH E S s H locs → ∀ ls : Array Slot, lv_has ls 4 [(0, .ref bs), (1, .ref (bb E 0)), (2, .ref (bb E 32)), (3, .int x3)] → W p l e room_1 s m #[Value.ref bs] below meth c H locs cells slots (lw_Z below #[Value.ref bs] s) (F0 m 18 ls [])) : ∀ (S : St) (x3 : Int32), f_L_law_168 N xs L k18 S x3 = some ((1 : Int32), S1) → ∀ (H : Heap) (locs : List Loc), HH E S s H locs → ∀ ls : Array Slot, lv_has ls 4 [(0, .ref bs), (1, .ref (bb E 0)), (2, .ref (bb E 32)), (3, .int x3)] → W p l e room_1 s m #[Value.ref bs] below meth c H locs cells slots (lw_Z below #[Value.ref bs] s) (F0 m 168 ls []) := by
  have hx := X.1
  have hb := X.2.1
  have hX := hW.1
  have hbl := hW.2.1
  have hbA := LW_A hW
  intro S x3 hf H locs hH ls hl
  rw [f_L_law_168] at hf
  refine lv_aload_n hx hb dL_law_168 rfl (lv_at hl 1 rfl) ?_
  refine lv_aload_n hx hb dL_law_169 rfl (lv_at hl 0 rfl) ?_
  refine lv_iload_n hx hb dL_law_170 rfl (lv_at hl 3 rfl) ?_
  refine lv_iconst (v := (nI 1)) hx hb dL_law_171 (by decide) ?_
  refine lv_iadd hx hb dL_law_172 ?_
  obtain ⟨g, hf⟩ := ite_g hf
  refine va_sld hx hb hX hbl hbA hH.2 (inb_in g) dL_law_173 ?_
  refine lv_aload_n hx hb dL_law_174 rfl (lv_at hl 0 rfl) ?_
  refine lv_iload_n hx hb dL_law_175 rfl (lv_at hl 3 rfl) ?_
  refine lv_iconst (v := (nI 2)) hx hb dL_law_176 (by decide) ?_
  refine lv_iadd hx hb dL_law_177 ?_
  obtain ⟨g, hf⟩ := ite_g hf
  refine va_sld hx hb hX hbl hbA hH.2 (inb_in g) dL_law_178 ?_
  refine lv_aload_n hx hb dL_law_179 rfl (lv_at hl 0 rfl) ?_
  refine lv_iload_n hx hb dL_law_180 rfl (lv_at hl 3 rfl) ?_
  refine lv_iconst (v := (nI 3)) hx hb dL_law_181 (by decide) ?_
  refine lv_iadd hx hb dL_law_182 ?_
  obtain ⟨g, hf⟩ := ite_g hf
  refine va_sld hx hb hX hbl hbA hH.2 (inb_in g) dL_law_183 ?_
  refine lv_aload_n hx hb dL_law_184 rfl (lv_at hl 0 rfl) ?_
  refine lv_iload_n hx hb dL_law_185 rfl (lv_at hl 3 rfl) ?_
  refine lv_iconst (v := (nI 4)) hx hb dL_law_186 (by decide) ?_
  refine lv_iadd hx hb dL_law_187 ?_
  obtain ⟨g, hf⟩ := ite_g hf
  refine va_sld hx hb hX hbl hbA hH.2 (inb_in g) dL_law_188 ?_
  obtain ⟨r3, S1, h2, hf⟩ := cal_g hf
  refine go_i hH (run_V X hH (rest := []) (c_X6_macros N S (xs (x3 + (nI 1)).toNatClampNeg) (xs (x3 + (nI 2)).toNatClampNeg) (xs (x3 + (nI 3)).toNatClampNeg) (xs (x3 + (nI 4)).toNatClampNeg) h2) gm_L_13 (by decide) (e_0 E _) rfl rfl hl.1 (law_room hW (by decide) (by decide)) (Nat.le_of_ble_eq_true rfl) rfl dL_law_189) (fun H locs hH => ?_)
  clear h2
  refine lv_aload_n hx hb dL_law_192 rfl (lv_at hl 2 rfl) ?_
  refine lv_aload_n hx hb dL_law_193 rfl (lv_at hl 0 rfl) ?_
  refine lv_iload_n hx hb dL_law_194 rfl (lv_at hl 3 rfl) ?_
  refine lv_iconst (v := (nI 1)) hx hb dL_law_195 (by decide) ?_
  refine lv_iadd hx hb dL_law_196 ?_
  obtain ⟨g, hf⟩ := ite_g hf
  refine va_sld hx hb hX hbl hbA hH.2 (inb_in g) dL_law_197 ?_
  refine lv_aload_n hx hb dL_law_198 rfl (lv_at hl 0 rfl) ?_
  refine lv_iload_n hx hb dL_law_199 rfl (lv_at hl 3 rfl) ?_
  refine lv_iconst (v := (nI 2)) hx hb dL_law_200 (by decide) ?_
  refine lv_iadd hx hb dL_law_201 ?_
  obtain ⟨g, hf⟩ := ite_g hf
  refine va_sld hx hb hX hbl hbA hH.2 (inb_in g) dL_law_202 ?_
  refine lv_aload_n hx hb dL_law_203 rfl (lv_at hl 0 rfl) ?_
  refine lv_iload_n hx hb dL_law_204 rfl (lv_at hl 3 rfl) ?_
  refine lv_iconst (v := (nI 3)) hx hb dL_law_205 (by decide) ?_
  refine lv_iadd hx hb dL_law_206 ?_
  obtain ⟨g, hf⟩ := ite_g hf
  refine va_sld hx hb hX hbl hbA hH.2 (inb_in g) dL_law_207 ?_
  refine lv_aload_n hx hb dL_law_208 rfl (lv_at hl 0 rfl) ?_
  refine lv_iload_n hx hb dL_law_209 rfl (lv_at hl 3 rfl) ?_
  refine lv_iconst (v := (nI 4)) hx hb dL_law_210 (by decide) ?_
  refine lv_iadd hx hb dL_law_211 ?_
  obtain ⟨g, hf⟩ := ite_g hf
  refine va_sld hx hb hX hbl hbA hH.2 (inb_in g) dL_law_212 ?_
  obtain ⟨r6, S4, h5, hf⟩ := cal_g hf
  refine go_i hH (run_V X hH (rest := [.int r3]) (c_X7_macros N S1 (xs (x3 + (nI 1)).toNatClampNeg) (xs (x3 + (nI 2)).toNatClampNeg) (xs (x3 + (nI 3)).toNatClampNeg) (xs (x3 + (nI 4)).toNatClampNeg) h5) gm_L_17 (by decide) (e_32 E _) rfl rfl hl.1 (law_room hW (by decide) (by decide)) (Nat.le_of_ble_eq_true rfl) rfl dL_law_213) (fun H locs hH => ?_)
  clear h5
  refine lv_icmp_eq (tgt := 1110) hx hb dL_law_216 (by decide) (fun c0 => ?_) (fun c0 => ?_)
  · replace hf := ite_t c0 hf
    obtain ⟨y7, ex, hf⟩ := bnd_go hf
    refine lv_iinc (v := y7) (lv' := [(3, .int y7), (0, .ref bs), (1, .ref (bb E 0)), (2, .ref (bb E 32))]) hx hb dL_law_1110 hl (k := 3) rfl (by rw [ex]; rfl) (by decide) rfl (fun ls hl => ?_)
    clear ex
    refine lv_goto (tgt := 18) hx hb dL_law_1113 (by decide) ?_
    exact hk18 S4 y7 hf _ _ hH _ (lv_sub hl [1, 2, 3, 0] rfl)
  · replace hf := ite_f c0 hf
    refine lv_iconst (v := (nI 0)) hx hb dL_law_219 (by decide) ?_
    exact law_ret X hH hW hf dL_law_220
set_option maxRecDepth 100000 in
set_option maxHeartbeats 4000000 in
theorem w_L_law_18 {p : Program} {l : Launch} {e : Env} {s : State} {m : MethodId} {below : List Frame} {meth : Method} {c : Code} {E : Ev} {S1 : St} {cells slots bs : Nat} (X : GX p s m meth c #[Value.ref bs] cL_law 4 ret RL E) (N : Nat) (xs : Nat → Int32) (L : Nat) (hW : LW E s bs L xs cells slots) : ∀ (n : Nat) (S : St) (x3 : Int32), f_L_law_18 N xs L n S x3 = some ((1 : Int32), S1) → ∀ (H : Heap) (locs : List Loc), HH E S s H locs → ∀ ls : Array Slot, lv_has ls 4 [(0, .ref bs), (1, .ref (bb E 0)), (2, .ref (bb E 32)), (3, .int x3)] → W p l e room_1 s m #[Value.ref bs] below meth c H locs cells slots (lw_Z below #[Value.ref bs] s) (F0 m 18 ls []) := by
  have hx := X.1
  have hb := X.2.1
  have hX := hW.1
  have hbl := hW.2.1
  have hbA := LW_A hW
  intro n
  induction n with
  | zero =>
    intro S x3 hf
    cases hf
  | succ n ih =>
    intro S x3 hf H locs hH ls hl
    rw [f_L_law_18] at hf
    refine lv_iload_n hx hb dL_law_18 rfl (lv_at hl 3 rfl) ?_
    refine lv_aload_n hx hb dL_law_19 rfl (lv_at hl 0 rfl) ?_
    refine va_slen hx hb hX hbl hbA hH.2 dL_law_20 ?_
    refine lv_bipush (v := (nI 6)) hx hb dL_law_21 (by decide) ?_
    refine lv_isub hx hb dL_law_23 ?_
    refine lv_icmp_gt (tgt := 1116) hx hb dL_law_24 (by decide) (fun c0 => ?_) (fun c0 => ?_)
    · replace hf := ite_t c0 hf
      refine lv_iconst (v := (nI 1)) hx hb dL_law_1116 (by decide) ?_
      exact law_ret X hH hW hf dL_law_1117
    · replace hf := ite_f c0 hf
      refine lv_aload_n hx hb dL_law_27 rfl (lv_at hl 0 rfl) ?_
      refine lv_iload_n hx hb dL_law_28 rfl (lv_at hl 3 rfl) ?_
      obtain ⟨g, hf⟩ := ite_g hf
      refine va_sld hx hb hX hbl hbA hH.2 (inb_in g) dL_law_29 ?_
      refine lv_bipush (v := (nI 31)) hx hb dL_law_30 (by decide) ?_
      refine lv_iand hx hb dL_law_32 ?_
      refine lv_topi (fun y1 ex => ?_)
      replace hf := bnd_at ex hf
      clear ex
      by_cases c0 : y1 = (nI 0)
      · replace hf := ite_t c0 hf
        subst c0
        refine lv_tableIn (tgt := 168) hx hb dL_law_33 (by decide) (by decide) rfl (by decide) ?_
        exact w_L_law_168 X N xs L hW (f_L_law_18 N xs L n) ih S x3 hf _ _ hH _ (lv_sub hl [0, 1, 2, 3] rfl)
      · replace hf := ite_f c0 hf
        by_cases c1 : y1 = (nI 1)
        · replace hf := ite_t c1 hf
          subst c1
          refine lv_tableIn (tgt := 221) hx hb dL_law_33 (by decide) (by decide) rfl (by decide) ?_
          exact w_L_law_221 X N xs L hW (f_L_law_18 N xs L n) ih S x3 hf _ _ hH _ (lv_sub hl [0, 1, 2, 3] rfl)
        · replace hf := ite_f c1 hf
          by_cases c2 : y1 = (nI 2)
          · replace hf := ite_t c2 hf
            subst c2
            refine lv_tableIn (tgt := 254) hx hb dL_law_33 (by decide) (by decide) rfl (by decide) ?_
            exact w_L_law_254 X N xs L hW (f_L_law_18 N xs L n) ih S x3 hf _ _ hH _ (lv_sub hl [0, 1, 2, 3] rfl)
          · replace hf := ite_f c2 hf
            by_cases c3 : y1 = (nI 3)
            · replace hf := ite_t c3 hf
              subst c3
              refine lv_tableIn (tgt := 287) hx hb dL_law_33 (by decide) (by decide) rfl (by decide) ?_
              exact w_L_law_287 X N xs L hW (f_L_law_18 N xs L n) ih S x3 hf _ _ hH _ (lv_sub hl [0, 1, 2, 3] rfl)
            · replace hf := ite_f c3 hf
              by_cases c4 : y1 = (nI 4)
              · replace hf := ite_t c4 hf
                subst c4
                refine lv_tableIn (tgt := 320) hx hb dL_law_33 (by decide) (by decide) rfl (by decide) ?_
                exact w_L_law_320 X N xs L hW (f_L_law_18 N xs L n) ih S x3 hf _ _ hH _ (lv_sub hl [0, 1, 2, 3] rfl)
              · replace hf := ite_f c4 hf
                by_cases c5 : y1 = (nI 5)
                · replace hf := ite_t c5 hf
                  subst c5
                  refine lv_tableIn (tgt := 343) hx hb dL_law_33 (by decide) (by decide) rfl (by decide) ?_
                  exact w_L_law_343 X N xs L hW (f_L_law_18 N xs L n) ih S x3 hf _ _ hH _ (lv_sub hl [0, 1, 2, 3] rfl)
                · replace hf := ite_f c5 hf
                  by_cases c6 : y1 = (nI 6)
                  · replace hf := ite_t c6 hf
                    subst c6
                    refine lv_tableIn (tgt := 366) hx hb dL_law_33 (by decide) (by decide) rfl (by decide) ?_
                    exact w_L_law_366 X N xs L hW (f_L_law_18 N xs L n) ih S x3 hf _ _ hH _ (lv_sub hl [0, 1, 2, 3] rfl)
                  · replace hf := ite_f c6 hf
                    by_cases c7 : y1 = (nI 7)
                    · replace hf := ite_t c7 hf
                      subst c7
                      refine lv_tableIn (tgt := 389) hx hb dL_law_33 (by decide) (by decide) rfl (by decide) ?_
                      exact w_L_law_389 X N xs L hW (f_L_law_18 N xs L n) ih S x3 hf _ _ hH _ (lv_sub hl [0, 1, 2, 3] rfl)
                    · replace hf := ite_f c7 hf
                      by_cases c8 : y1 = (nI 8)
                      · replace hf := ite_t c8 hf
                        subst c8
                        refine lv_tableIn (tgt := 402) hx hb dL_law_33 (by decide) (by decide) rfl (by decide) ?_
                        exact w_L_law_402 X N xs L hW (f_L_law_18 N xs L n) ih S x3 hf _ _ hH _ (lv_sub hl [0, 1, 2, 3] rfl)
                      · replace hf := ite_f c8 hf
                        by_cases c9 : y1 = (nI 9)
                        · replace hf := ite_t c9 hf
                          subst c9
                          refine lv_tableIn (tgt := 465) hx hb dL_law_33 (by decide) (by decide) rfl (by decide) ?_
                          exact w_L_law_465 X N xs L hW (f_L_law_18 N xs L n) ih S x3 hf _ _ hH _ (lv_sub hl [0, 1, 2, 3] rfl)
                        · replace hf := ite_f c9 hf
                          by_cases c10 : y1 = (nI 10)
                          · replace hf := ite_t c10 hf
                            subst c10
                            refine lv_tableIn (tgt := 528) hx hb dL_law_33 (by decide) (by decide) rfl (by decide) ?_
                            exact w_L_law_528 X N xs L hW (f_L_law_18 N xs L n) ih S x3 hf _ _ hH _ (lv_sub hl [0, 1, 2, 3] rfl)
                          · replace hf := ite_f c10 hf
                            by_cases c11 : y1 = (nI 11)
                            · replace hf := ite_t c11 hf
                              subst c11
                              refine lv_tableIn (tgt := 561) hx hb dL_law_33 (by decide) (by decide) rfl (by decide) ?_
                              exact w_L_law_561 X N xs L hW (f_L_law_18 N xs L n) ih S x3 hf _ _ hH _ (lv_sub hl [0, 1, 2, 3] rfl)
                            · replace hf := ite_f c11 hf
                              by_cases c12 : y1 = (nI 12)
                              · replace hf := ite_t c12 hf
                                subst c12
                                refine lv_tableIn (tgt := 594) hx hb dL_law_33 (by decide) (by decide) rfl (by decide) ?_
                                exact w_L_law_594 X N xs L hW (f_L_law_18 N xs L n) ih S x3 hf _ _ hH _ (lv_sub hl [0, 1, 2, 3] rfl)
                              · replace hf := ite_f c12 hf
                                by_cases c13 : y1 = (nI 13)
                                · replace hf := ite_t c13 hf
                                  subst c13
                                  refine lv_tableIn (tgt := 617) hx hb dL_law_33 (by decide) (by decide) rfl (by decide) ?_
                                  exact w_L_law_617 X N xs L hW (f_L_law_18 N xs L n) ih S x3 hf _ _ hH _ (lv_sub hl [0, 1, 2, 3] rfl)
                                · replace hf := ite_f c13 hf
                                  by_cases c14 : y1 = (nI 14)
                                  · replace hf := ite_t c14 hf
                                    subst c14
                                    refine lv_tableIn (tgt := 630) hx hb dL_law_33 (by decide) (by decide) rfl (by decide) ?_
                                    exact w_L_law_630 X N xs L hW (f_L_law_18 N xs L n) ih S x3 hf _ _ hH _ (lv_sub hl [0, 1, 2, 3] rfl)
                                  · replace hf := ite_f c14 hf
                                    by_cases c15 : y1 = (nI 15)
                                    · replace hf := ite_t c15 hf
                                      subst c15
                                      refine lv_tableIn (tgt := 663) hx hb dL_law_33 (by decide) (by decide) rfl (by decide) ?_
                                      exact w_L_law_663 X N xs L hW (f_L_law_18 N xs L n) ih S x3 hf _ _ hH _ (lv_sub hl [0, 1, 2, 3] rfl)
                                    · replace hf := ite_f c15 hf
                                      by_cases c16 : y1 = (nI 16)
                                      · replace hf := ite_t c16 hf
                                        subst c16
                                        refine lv_tableIn (tgt := 686) hx hb dL_law_33 (by decide) (by decide) rfl (by decide) ?_
                                        exact w_L_law_686 X N xs L hW (f_L_law_18 N xs L n) ih S x3 hf _ _ hH _ (lv_sub hl [0, 1, 2, 3] rfl)
                                      · replace hf := ite_f c16 hf
                                        by_cases c17 : y1 = (nI 17)
                                        · replace hf := ite_t c17 hf
                                          subst c17
                                          refine lv_tableIn (tgt := 709) hx hb dL_law_33 (by decide) (by decide) rfl (by decide) ?_
                                          exact w_L_law_709 X N xs L hW (f_L_law_18 N xs L n) ih S x3 hf _ _ hH _ (lv_sub hl [0, 1, 2, 3] rfl)
                                        · replace hf := ite_f c17 hf
                                          by_cases c18 : y1 = (nI 18)
                                          · replace hf := ite_t c18 hf
                                            subst c18
                                            refine lv_tableIn (tgt := 732) hx hb dL_law_33 (by decide) (by decide) rfl (by decide) ?_
                                            exact w_L_law_732 X N xs L hW (f_L_law_18 N xs L n) ih S x3 hf _ _ hH _ (lv_sub hl [0, 1, 2, 3] rfl)
                                          · replace hf := ite_f c18 hf
                                            by_cases c19 : y1 = (nI 19)
                                            · replace hf := ite_t c19 hf
                                              subst c19
                                              refine lv_tableIn (tgt := 766) hx hb dL_law_33 (by decide) (by decide) rfl (by decide) ?_
                                              exact w_L_law_766 X N xs L hW (f_L_law_18 N xs L n) ih S x3 hf _ _ hH _ (lv_sub hl [0, 1, 2, 3] rfl)
                                            · replace hf := ite_f c19 hf
                                              by_cases c20 : y1 = (nI 20)
                                              · replace hf := ite_t c20 hf
                                                subst c20
                                                refine lv_tableIn (tgt := 809) hx hb dL_law_33 (by decide) (by decide) rfl (by decide) ?_
                                                exact w_L_law_809 X N xs L hW (f_L_law_18 N xs L n) ih S x3 hf _ _ hH _ (lv_sub hl [0, 1, 2, 3] rfl)
                                              · replace hf := ite_f c20 hf
                                                by_cases c21 : y1 = (nI 21)
                                                · replace hf := ite_t c21 hf
                                                  subst c21
                                                  refine lv_tableIn (tgt := 832) hx hb dL_law_33 (by decide) (by decide) rfl (by decide) ?_
                                                  exact w_L_law_832 X N xs L hW (f_L_law_18 N xs L n) ih S x3 hf _ _ hH _ (lv_sub hl [0, 1, 2, 3] rfl)
                                                · replace hf := ite_f c21 hf
                                                  by_cases c22 : y1 = (nI 22)
                                                  · replace hf := ite_t c22 hf
                                                    subst c22
                                                    refine lv_tableIn (tgt := 875) hx hb dL_law_33 (by decide) (by decide) rfl (by decide) ?_
                                                    exact w_L_law_875 X N xs L hW (f_L_law_18 N xs L n) ih S x3 hf _ _ hH _ (lv_sub hl [0, 1, 2, 3] rfl)
                                                  · replace hf := ite_f c22 hf
                                                    by_cases c23 : y1 = (nI 23)
                                                    · replace hf := ite_t c23 hf
                                                      subst c23
                                                      refine lv_tableIn (tgt := 919) hx hb dL_law_33 (by decide) (by decide) rfl (by decide) ?_
                                                      exact w_L_law_919 X N xs L hW (f_L_law_18 N xs L n) ih S x3 hf _ _ hH _ (lv_sub hl [0, 1, 2, 3] rfl)
                                                    · replace hf := ite_f c23 hf
                                                      by_cases c24 : y1 = (nI 24)
                                                      · replace hf := ite_t c24 hf
                                                        subst c24
                                                        refine lv_tableIn (tgt := 982) hx hb dL_law_33 (by decide) (by decide) rfl (by decide) ?_
                                                        exact w_L_law_982 X N xs L hW (f_L_law_18 N xs L n) ih S x3 hf _ _ hH _ (lv_sub hl [0, 1, 2, 3] rfl)
                                                      · replace hf := ite_f c24 hf
                                                        by_cases c25 : y1 = (nI 25)
                                                        · replace hf := ite_t c25 hf
                                                          subst c25
                                                          refine lv_tableIn (tgt := 1005) hx hb dL_law_33 (by decide) (by decide) rfl (by decide) ?_
                                                          exact w_L_law_1005 X N xs L hW (f_L_law_18 N xs L n) ih S x3 hf _ _ hH _ (lv_sub hl [0, 1, 2, 3] rfl)
                                                        · replace hf := ite_f c25 hf
                                                          by_cases c26 : y1 = (nI 26)
                                                          · replace hf := ite_t c26 hf
                                                            subst c26
                                                            refine lv_tableIn (tgt := 1028) hx hb dL_law_33 (by decide) (by decide) rfl (by decide) ?_
                                                            exact w_L_law_1028 X N xs L hW (f_L_law_18 N xs L n) ih S x3 hf _ _ hH _ (lv_sub hl [0, 1, 2, 3] rfl)
                                                          · replace hf := ite_f c26 hf
                                                            by_cases c27 : y1 = (nI 27)
                                                            · replace hf := ite_t c27 hf
                                                              subst c27
                                                              refine lv_tableIn (tgt := 1061) hx hb dL_law_33 (by decide) (by decide) rfl (by decide) ?_
                                                              exact w_L_law_1061 X N xs L hW (f_L_law_18 N xs L n) ih S x3 hf _ _ hH _ (lv_sub hl [0, 1, 2, 3] rfl)
                                                            · replace hf := ite_f c27 hf
                                                              by_cases c28 : y1 = (nI 28)
                                                              · replace hf := ite_t c28 hf
                                                                subst c28
                                                                refine lv_tableIn (tgt := 1074) hx hb dL_law_33 (by decide) (by decide) rfl (by decide) ?_
                                                                exact w_L_law_1074 X N xs L hW (f_L_law_18 N xs L n) ih S x3 hf _ _ hH _ (lv_sub hl [0, 1, 2, 3] rfl)
                                                              · replace hf := ite_f c28 hf
                                                                by_cases c29 : y1 = (nI 29)
                                                                · replace hf := ite_t c29 hf
                                                                  subst c29
                                                                  refine lv_tableIn (tgt := 1087) hx hb dL_law_33 (by decide) (by decide) rfl (by decide) ?_
                                                                  exact w_L_law_1087 X N xs L hW (f_L_law_18 N xs L n) ih S x3 hf _ _ hH _ (lv_sub hl [0, 1, 2, 3] rfl)
                                                                · replace hf := ite_f c29 hf
                                                                  refine lv_tableOut (tgt := 1110) hx hb dL_law_33 (by have t0 : y1.toInt ≠ 0 := i32_ne c0; have t1 : y1.toInt ≠ 1 := i32_ne c1; have t2 : y1.toInt ≠ 2 := i32_ne c2; have t3 : y1.toInt ≠ 3 := i32_ne c3; have t4 : y1.toInt ≠ 4 := i32_ne c4; have t5 : y1.toInt ≠ 5 := i32_ne c5; have t6 : y1.toInt ≠ 6 := i32_ne c6; have t7 : y1.toInt ≠ 7 := i32_ne c7; have t8 : y1.toInt ≠ 8 := i32_ne c8; have t9 : y1.toInt ≠ 9 := i32_ne c9; have t10 : y1.toInt ≠ 10 := i32_ne c10; have t11 : y1.toInt ≠ 11 := i32_ne c11; have t12 : y1.toInt ≠ 12 := i32_ne c12; have t13 : y1.toInt ≠ 13 := i32_ne c13; have t14 : y1.toInt ≠ 14 := i32_ne c14; have t15 : y1.toInt ≠ 15 := i32_ne c15; have t16 : y1.toInt ≠ 16 := i32_ne c16; have t17 : y1.toInt ≠ 17 := i32_ne c17; have t18 : y1.toInt ≠ 18 := i32_ne c18; have t19 : y1.toInt ≠ 19 := i32_ne c19; have t20 : y1.toInt ≠ 20 := i32_ne c20; have t21 : y1.toInt ≠ 21 := i32_ne c21; have t22 : y1.toInt ≠ 22 := i32_ne c22; have t23 : y1.toInt ≠ 23 := i32_ne c23; have t24 : y1.toInt ≠ 24 := i32_ne c24; have t25 : y1.toInt ≠ 25 := i32_ne c25; have t26 : y1.toInt ≠ 26 := i32_ne c26; have t27 : y1.toInt ≠ 27 := i32_ne c27; have t28 : y1.toInt ≠ 28 := i32_ne c28; have t29 : y1.toInt ≠ 29 := i32_ne c29; omega) (by decide) ?_
                                                                  obtain ⟨y2, ex, hf⟩ := bnd_go hf
                                                                  refine lv_iinc (v := y2) (lv' := [(3, .int y2), (0, .ref bs), (1, .ref (bb E 0)), (2, .ref (bb E 32))]) hx hb dL_law_1110 hl (k := 3) rfl (by rw [ex]; rfl) (by decide) rfl (fun ls hl => ?_)
                                                                  clear ex
                                                                  refine lv_goto (tgt := 18) hx hb dL_law_1113 (by decide) ?_
                                                                  exact ih S y2 hf _ _ hH _ (lv_sub hl [1, 2, 3, 0] rfl)
set_option maxRecDepth 100000 in
set_option maxHeartbeats 4000000 in
theorem w_L_law_16 {p : Program} {l : Launch} {e : Env} {s : State} {m : MethodId} {below : List Frame} {meth : Method} {c : Code} {E : Ev} {S1 : St} {cells slots bs : Nat} (X : GX p s m meth c #[Value.ref bs] cL_law 4 ret RL E) (N : Nat) (xs : Nat → Int32) (L : Nat) (hW : LW E s bs L xs cells slots) : ∀ (S : St), f_L_law_16 N xs L S = some ((1 : Int32), S1) → ∀ (H : Heap) (locs : List Loc), HH E S s H locs → ∀ ls : Array Slot, lv_has ls 4 [(0, .ref bs), (1, .ref (bb E 0)), (2, .ref (bb E 32))] → W p l e room_1 s m #[Value.ref bs] below meth c H locs cells slots (lw_Z below #[Value.ref bs] s) (F0 m 16 ls []) := by
  have hx := X.1
  have hb := X.2.1
  have hX := hW.1
  have hbl := hW.2.1
  have hbA := LW_A hW
  intro S hf H locs hH ls hl
  rw [f_L_law_16] at hf
  refine lv_iconst (v := (nI 0)) hx hb dL_law_16 (by decide) ?_
  refine lv_topi (fun y1 ex => ?_)
  replace hf := bnd_at ex hf
  clear ex
  refine lv_istore_n (lv' := [(3, .int y1), (0, .ref bs), (1, .ref (bb E 0)), (2, .ref (bb E 32))]) hx hb dL_law_17 rfl hl (by decide) rfl (fun ls hl => ?_)
  exact w_L_law_18 X N xs L hW N S y1 hf _ _ hH _ (lv_sub hl [1, 2, 3, 0] rfl)
