/-! ROWS over the world: one an instruction that reads or writes it, one a call, one a return. -/
section rows
variable {p : Program} {l : Launch} {e : Env} {R : Room} {s : State} {m : MethodId} {args : Array Value} {below : List Frame} {meth : Method} {c : Code} {H : Heap} {locs : List Loc} {cells slots : Nat} {Q : State → Prop} {cc : ByteArray} {nL : Nat} {ret : Option FieldType} {own : String} {E : Ev} {S : St} {pc : Nat} {ls : Array Slot} {rest : List Value}
theorem r_get (X : GX p s m meth c args cc nL ret own E) (hH : HH E S s H locs) {q0 ci k N index : Nat} {fs : List Value} {C : String} {T : u_T} {v : Value} (hq : q0 < 54) (he : en E q0 (S q0) = .inr (ci, fs)) (hc : vwCl[ci]? = some (C, T, N)) (hin : ∀ w ∈ u_ws C T N, w ∈ wsL_law) (hk : k < N) (hlink : Cond.fieldLink own index (T k).1 (T k).2.1 (T k).2.2.1 ∈ wsL_law) (hv : fs[k]? = some v) (hdg : decode cc pc = .ok (.getfield index, 3))
    (kk : W p l e R s m args below meth c H locs cells slots Q (F0 m (pc + 3) ls (v :: rest))) : W p l e R s m args below meth c H locs cells slots Q (F0 m pc ls (.ref (bb E q0) :: rest)) := by
  obtain ⟨hx, hb, -, hown, hts, -, -, hK, -, -, -⟩ := X
  exact va_get hx hb hts hin hown hK hH.1 q0 (by rw [wd_get hq, he]) hc k hk (hts _ hlink) (fun _ h => h) hv hdg kk
theorem r_put (X : GX p s m meth c args cc nL ret own E) (hH : HH E S s H locs) {q0 ci k N index : Nat} {fs : List Value} {C : String} {T : u_T} {ty0 : Nat → FieldType} {ty : FieldType} {v : Value} (S' : St) (hq : q0 < 54) (he : en E q0 (S q0) = .inr (ci, fs)) (hc : vwCl[ci]? = some (C, T, N)) (hin : ∀ w ∈ u_ws C T N, w ∈ wsL_law) (hty : ∀ k, k < N → parseFieldDescriptor (T k).2.2.1 = some (ty0 k)) (hnm : ∀ a, a < N → ∀ b, b < N → a ≠ b → (T a).2.1 ≠ (T b).2.1) (hk : k < N) (hlink : Cond.fieldLink own index (T k).1 (T k).2.1 (T k).2.2.1 ∈ wsL_law) (hfin : (T k).2.2.2 = false) (hd : ty0 k = ty) (hn : narrow ty v = v) (hfit : fits ty v = true) (hl : k < fs.length) (he' : en E q0 (S' q0) = .inr (ci, fs.set k v)) (ho : ∀ a, a ≠ q0 → S' a = S a) (hdg : decode cc pc = .ok (.putfield index, 3))
    (kk : ∀ (H1 : Heap) (locs1 : List Loc), HH E S' s H1 locs1 → W p l e R s m args below meth c H1 locs1 cells slots Q (F0 m (pc + 3) ls rest)) : W p l e R s m args below meth c H locs cells slots Q (F0 m pc ls (v :: .ref (bb E q0) :: rest)) := by
  obtain ⟨hx, hb, -, hown, hts, -, -, hK, hi, -, -⟩ := X
  exact va_put hx hb hts hin ty0 hty hnm hown hK hH.1 (wd_D hi S _) hH.2 q0 (by rw [wd_get hq, he]) hc k hk (hts _ hlink) (fun _ h => h) hfin (by rw [hty k hk, hd]) hn hfit hl hdg (fun H1 locs1 h1 _ h3 => kk H1 locs1 ⟨by rw [← wd_set hq he' ho]; exact h1, h3⟩)
theorem r_iald (X : GX p s m meth c args cc nL ret own E) (hH : HH E S s H locs) {q n : Nat} (ha : isA E q n) {i : Int32} (hin : inb i n = true) (hdg : decode cc pc = .ok (.iaload, 1))
    (kk : W p l e R s m args below meth c H locs cells slots Q (F0 m (pc + 1) ls (.int (S q i.toNatClampNeg) :: rest))) : W p l e R s m args below meth c H locs cells slots Q (F0 m pc ls (.int i :: .ref (bb E q) :: rest)) := by
  obtain ⟨hx, hb, -, hown, hts, -, -, hK, -, -, -⟩ := X
  exact va_iald hx hb hK hH.1 q 0 (by rw [wd_get ha.1, ha.2]) rfl (inb_in hin) hdg kk
theorem r_iast (X : GX p s m meth c args cc nL ret own E) (hH : HH E S s H locs) {q n : Nat} (ha : isA E q n) {i x : Int32} (hin : inb i n = true) (hdg : decode cc pc = .ok (.iastore, 1))
    (kk : ∀ (H1 : Heap) (locs1 : List Loc), HH E (st S q i.toNatClampNeg x) s H1 locs1 → W p l e R s m args below meth c H1 locs1 cells slots Q (F0 m (pc + 1) ls rest)) : W p l e R s m args below meth c H locs cells slots Q (F0 m pc ls (.int x :: .int i :: .ref (bb E q) :: rest)) := by
  obtain ⟨hx, hb, -, hown, hts, -, -, hK, hi, -, -⟩ := X
  exact va_iast hx hb hK hH.1 (wd_D hi S _) hH.2 q 0 (by rw [wd_get ha.1, ha.2]) rfl (inb_in hin) hdg (fun H1 locs1 h1 _ h3 => kk H1 locs1 ⟨by rw [← wd_set (S := S) (S' := st S q i.toNatClampNeg x) ha.1 (by rw [ha.2, st_upd]) (fun a h => st_ne h)]; exact h1, h3⟩)
theorem r_alen (X : GX p s m meth c args cc nL ret own E) (hH : HH E S s H locs) {q n : Nat} (ha : isA E q n) {v : Int32} (hv : Int32.ofNat n = v) (hdg : decode cc pc = .ok (.arraylength, 1))
    (kk : W p l e R s m args below meth c H locs cells slots Q (F0 m (pc + 1) ls (.int v :: rest))) : W p l e R s m args below meth c H locs cells slots Q (F0 m pc ls (.ref (bb E q) :: rest)) := by
  obtain ⟨hx, hb, -, hown, hts, -, -, hK, -, -, -⟩ := X
  exact va_alen hx hb hK hH.1 q 0 (by rw [wd_get ha.1, ha.2 (S q)]) rfl hv hdg kk
theorem r_aald (X : GX p s m meth c args cc nL ret own E) (hH : HH E S s H locs) {q t0 n : Nat} {cA : ClassId} {C : String} {f : Nat → Option Nat} (hq : q < 54) (he : en E q (S q) = .inl (cA, n, .inr (.inr (.inr (.inr f))))) (ht : (tyl E)[t0]? = some (cA, .object C)) {i : Int32} {v : Value} (hin : inb i n = true) (hv : va_rf (f i.toNatClampNeg) = v) (hdg : decode cc pc = .ok (.aaload, 1))
    (kk : W p l e R s m args below meth c H locs cells slots Q (F0 m (pc + 1) ls (v :: rest))) : W p l e R s m args below meth c H locs cells slots Q (F0 m pc ls (.int i :: .ref (bb E q) :: rest)) := by
  obtain ⟨hx, hb, -, hown, hts, -, -, hK, -, -, -⟩ := X
  exact va_aldq hx hb hK hH.1 q t0 (by rw [wd_get hq, he]) ht (inb_in hin) hdg (by rw [hv]; exact kk)
theorem r_first (X : GX p s m meth c args cc nL ret own E) (hH : HH E S s H locs) {index : Nat} (hlink : Cond.fieldLink own index "MacroKeys$Line" "FIRST" "[I" ∈ wsL_law) (hdg : decode cc pc = .ok (.getstatic index, 3))
    (kk : ∀ t : Nat, va_T .int t 6 (fun j => .int (frs j)) (AA E s.heap.size) s s.heap → W p l e R s m args below meth c H locs cells slots Q (F0 m (pc + 3) ls (.ref t :: rest))) : W p l e R s m args below meth c H locs cells slots Q (F0 m pc ls rest) := by
  obtain ⟨hx, hb, -, hown, hts, -, -, hK, -, ⟨t, hZ, hT⟩, -⟩ := X
  exact va_gets hx hb hZ hH.2 hown (hts _ hlink) (fun _ h => h) hdg (kk t hT)
theorem r_tld (X : GX p s m meth c args cc nL ret own E) (hH : HH E S s H locs) {t : Nat} (hT : va_T .int t 6 (fun j => .int (frs j)) (AA E s.heap.size) s s.heap) {i : Int32} (hin : inb i 6 = true) (hdg : decode cc pc = .ok (.iaload, 1))
    (kk : W p l e R s m args below meth c H locs cells slots Q (F0 m (pc + 1) ls (.int (frs i.toNatClampNeg) :: rest))) : W p l e R s m args below meth c H locs cells slots Q (F0 m pc ls (.int i :: .ref t :: rest)) := by
  obtain ⟨hx, hb, -⟩ := X
  exact va_ti hx hb hT hH.2 (inb_in hin) rfl hdg kk
/-- System.arraycopy between two rows of ints -/
def cpyok (sp dp n : Int32) (n0 n1 : Nat) : Bool := decide (¬ sp < 0 ∧ ¬ dp < 0 ∧ ¬ n < 0 ∧ sp.toNatClampNeg + n.toNatClampNeg ≤ n0 ∧ dp.toNatClampNeg + n.toNatClampNeg ≤ n1)
theorem r_copy (X : GX p s m meth c args cc nL ret own E) (hH : HH E S s H locs) {q0 q1 n0 n1 index : Nat} (ha0 : isA E q0 n0) (ha1 : isA E q1 n1) {sp dp n : Int32} (hok : cpyok sp dp n n0 n1 = true) (hw : Cond.methodLink own index arraycopyName ∈ wsL_law ∧ Cond.native arraycopyName ∈ wsL_law ∧ Cond.static arraycopyName ∈ wsL_law ∧ Cond.initialized "java/lang/System" ∈ wsL_law) (hsz : ls.size = nL) (hframes : 1 ≤ R.frames) (hlocals : (rest.map fun v => v.category).sum + (nativeFrameWords "java/lang/System" "arraycopy" 5 + 11) ≤ R.locals) (hdg : decode cc pc = .ok (.invokestatic index, 3))
    (kk : ∀ (H1 : Heap) (locs1 : List Loc), HH E (sr S q1 (va_cpy (S q0) (S q1) sp.toNatClampNeg dp.toNatClampNeg n.toNatClampNeg)) s H1 locs1 → W p l e R s m args below meth c H1 locs1 cells slots Q (F0 m (pc + 3) ls rest)) : W p l e R s m args below meth c H locs cells slots Q (F0 m pc ls (.int n :: .int dp :: .ref (bb E q1) :: .int sp :: .ref (bb E q0) :: rest)) := by
  obtain ⟨hx, hb, hml, hown, hts, -, -, hK, hi, -, -⟩ := X
  obtain ⟨h1, h2, h3, h4, h5⟩ := of_decide_eq_true hok
  exact va_copyi hx hb (by rw [hml, hsz]) hown (hts _ hw.1) (hts _ hw.2.1) (hts _ hw.2.2.1) (hts _ hw.2.2.2) hK hH.1 (wd_D hi S _) hH.2 q0 q1 0 0 (by rw [wd_get ha0.1, ha0.2]) (by rw [wd_get ha1.1, ha1.2]) rfl rfl rfl h1 h2 h3 h4 h5 (fun _ _ => rfl) hframes hlocals hdg (fun H1 locs1 g1 _ g3 => kk H1 locs1 ⟨by rw [← wd_set (S := S) (S' := sr S q1 (va_cpy (S q0) (S q1) sp.toNatClampNeg dp.toNatClampNeg n.toNatClampNeg)) ha1.1 (by rw [ha1.2, sr_s]) (fun a h => sr_ne h)]; exact g1, g3⟩)
end rows
/-! contracts: what a method answers and the state behind it -/
def rmL (k : Nat) : Room := { frames := k, cells := 0, slots := 0, locals := 40 * k }
def QI (E : Ev) (r : Int32) (S1 : St) (sz : Nat) : Array Value → State → Outcome → State → Prop := va_Qi (fun r' (_ : Unit) => r' = r) (fun _ t => QX E S1 t) (AA E sz)
def QL (E : Ev) (r : Int64) (S1 : St) (sz : Nat) : Array Value → State → Outcome → State → Prop := va_Ql (fun r' (_ : Unit) => r' = r) (fun _ t => QX E S1 t) (AA E sz)
def QV (E : Ev) (_ : Unit) (S1 : St) (sz : Nat) : Array Value → State → Outcome → State → Prop := va_Qv (fun (_ : Unit) => True) (fun _ t => QX E S1 t) (AA E sz)
def QQ (o : Nat) (E : Ev) (r : Option Nat) (S1 : St) (sz : Nat) : Array Value → State → Outcome → State → Prop := va_Qq (fun r' (_ : Unit) => r' = r.map (fun j => bb E (o + j))) (fun _ t => QX E S1 t) (AA E sz)
/-- a contract of level k: with what the arguments are and the state, the end -/
def Ct (l : Launch) (y : MethodName) (cy : Cond) (k : Nat) (E : Ev) (av : List Value) (S : St) (Qe : Nat → Array Value → State → Outcome → State → Prop) : Prop := ∀ sz, Met l y (cy :: wsL_law) (rmL k) (va_Pc av (PX E S sz)) (Qe sz) 0 0 (AA E sz)
theorem Ct.of {l : Launch} {y : MethodName} {cc : ByteArray} {maxL k : Nat} {ret : Option FieldType} {E : Ev} {av : List Value} {S : St} {Qe : Nat → Array Value → State → Outcome → State → Prop} (hy : plainName y.cls = true) (hlen : (lg_sl av).length ≤ maxL)
    (body : ∀ (p : Program) (e : Env) (s : State) (m : MethodId) (below : List Frame) (meth : Method) (c : Code) (ls : Array Slot), GX p s m meth c av.toArray cc maxL ret y.cls E → HH E S s s.heap [] → lv_has ls maxL (lv_args 0 av) → W p l e (rmL k) s m av.toArray below meth c s.heap [] 0 0 (MQ below (Qe s.heap.size) av.toArray s 0 0 (AA E s.heap.size)) (F0 m 0 ls [])) : Ct l y (.code y cc maxL ret) k E av S Qe := by
  intro sz
  refine Met.ofW (cc := cc) (maxL := maxL) (ret := ret) hy rfl ?_
  intro p e s m args below meth c s₁ B hml hv
  obtain ⟨rfl, hsz, hP, hK, hi, hZ, hN⟩ := hv
  subst hsz
  have hts := atoms_spec (ws := .code y cc maxL ret :: wsL_law) B.pre
  have hl := lv_entry av (n := maxL) hlen
  rw [lg_entry_eq]
  exact body p e s m below meth c _ ⟨B.exec, B.bytes, hml, findClass_of_methodNamed B.named, fun w h => hts w (List.mem_cons_of_mem _ h), B.notSynchronized, B.returns, hK, hi, hZ, hN⟩ ⟨hP, va_S.rf⟩ hl
theorem good_law : GoodIn wsL_law wsL_law := goodIn_sub (fun _ h => h) (by decide +kernel)
/-- the words of a call: of an object's method, of a static one -/
def GV (own : String) (index : Nat) (C : String) (y : MethodName) (cy : Cond) (n : Nat) : Prop := (Cond.methodLink own index y ∈ wsL_law ∧ Cond.instanceMethod y ∈ wsL_law ∧ Cond.selects C y y ∈ wsL_law ∧ Cond.initialized C ∈ wsL_law ∧ cy ∈ wsL_law) ∧ (y.cls = C ∧ y.cls ≠ "java/lang/invoke/MethodHandle" ∧ y.cls ≠ "java/lang/invoke/VarHandle" ∧ (parseMethodDescriptor y.desc).map (fun d => d.parameters.length) = some n)
def GN (C : String) (y : MethodName) (cy : Cond) (n : Nat) : Prop := (Cond.instanceMethod y ∈ wsL_law ∧ Cond.selects C y y ∈ wsL_law ∧ Cond.initialized y.cls ∈ wsL_law ∧ cy ∈ wsL_law) ∧ (y.cls ≠ "java/lang/invoke/MethodHandle" ∧ y.cls ≠ "java/lang/invoke/VarHandle" ∧ (parseMethodDescriptor y.desc).map (fun d => d.parameters.length) = some n)
def GS (own : String) (index : Nat) (y : MethodName) (cy : Cond) (n : Nat) : Prop := (Cond.methodLink own index y ∈ wsL_law ∧ Cond.static y ∈ wsL_law ∧ Cond.initialized y.cls ∈ wsL_law ∧ cy ∈ wsL_law) ∧ (y.cls ≠ "java/lang/invoke/MethodHandle" ∧ y.cls ≠ "java/lang/invoke/VarHandle" ∧ (parseMethodDescriptor y.desc).map (fun d => d.parameters.length) = some n)
def RoomOK (R : Room) (k cells slots maxL : Nat) : Prop := (k + 1 ≤ R.frames ∧ 8 + (maxL + 11) + 40 * k ≤ R.locals) ∧ cells + 0 ≤ R.cells ∧ slots + 0 ≤ R.slots
theorem rmL_ok {k k' maxL : Nat} (h : k + 1 ≤ k') (h2 : maxL ≤ 21) : RoomOK (rmL k') k 0 0 maxL := ⟨⟨h, by show 8 + (maxL + 11) + 40 * k ≤ 40 * k'; omega⟩, Nat.le_refl _, Nat.le_refl _⟩
theorem good_c {cy : Cond} (h : cy ∈ wsL_law) : GoodIn wsL_law (cy :: wsL_law) := fun w hw => (List.mem_cons.mp hw).elim (fun z => by rw [z]; exact good_law cy h) (good_law w)
section calls
variable {p : Program} {l : Launch} {e : Env} {R : Room} {s : State} {m : MethodId} {args : Array Value} {below : List Frame} {meth : Method} {c : Code} {H : Heap} {locs : List Loc} {cells slots : Nat} {Q : State → Prop} {cc : ByteArray} {nL : Nat} {ret : Option FieldType} {own : String} {E : Ev} {S S1 : St} {pc : Nat} {ls : Array Slot} {rest : List Value}
theorem PX_blind (av : List Value) (sz : Nat) : FrameBlind (va_Pc av (PX E S sz)) := by
  intro a U g mk q
  obtain ⟨q0, q1, qP, qK, qi, ⟨t, z1, z2⟩, qN⟩ := q
  exact ⟨q0, q1, qP, va_K.moved (u := U) (U := U.calling g mk a) (Vm.Alike.refl U.vm) qK, qi, ⟨t, va_Z.moved (u := U) (U := U.calling g mk a) (Vm.Alike.refl U.vm) z1, va_T.moved (u := U) (U := U.calling g mk a) (Vm.Alike.refl U.vm) z2⟩, va_Nw.same (u := U) (U := U.calling g mk a) rfl rfl qN.1, va_Nw.same (u := U) (U := U.calling g mk a) rfl rfl qN.2⟩
theorem PX_at (X : GX p s m meth c args cc nL ret own E) (hH : HH E S s H locs) (av : List Value) (U : State) (hU : U.heap = H) (hW : s.WarmedH U.vm) : va_Pc av (PX E S H.size) av.toArray U := by
  obtain ⟨-, -, -, -, -, -, -, hK, hi, hZ, hN⟩ := X
  exact ⟨rfl, by rw [hU], by rw [hU]; exact hH.1, va_K.moved hW.alike hK, hi, hZ.go hH.2 hU hW.alike, hN.go hW⟩
theorem AA_lt (X : HH E S s H locs) (q : Nat) (h : AA E H.size q) : AA E s.heap.size q := AA_le X.2.1 h
theorem run_V (X : GX p s m meth c args cc nL ret own E) (hH : HH E S s H locs) {q0 ci index maxL k n N : Nat} {fs : List Value} {C : String} {T : u_T} {y : MethodName} {bytes : ByteArray} {rt : Option FieldType} {As : List Value} {Qe : Nat → Array Value → State → Outcome → State → Prop} {st0 : List Value}
    (hM : Ct l y (.code y bytes maxL rt) k E (.ref (bb E q0) :: As) S Qe) (g : GV own index C y (.code y bytes maxL rt) n) (hq : q0 < 54) (he : en E q0 (S q0) = .inr (ci, fs)) (hc : vwCl[ci]? = some (C, T, N)) (hn : As.length = n) (hsz : ls.size = nL) (hR : RoomOK R k cells slots maxL) (hW : (rest.map fun v => v.category).sum ≤ 8) (hst : st0 = As.reverse ++ .ref (bb E q0) :: rest) (hdg : decode cc pc = .ok (.invokevirtual index, 3)) :
    va_Run p l e R s m args below meth c H locs cells slots 0 0 (F0 m pc ls st0) rest (Qe H.size (Value.ref (bb E q0) :: As).toArray) (AA E H.size) := by
  obtain ⟨hx, hb, hml, hown, hts, -, -, hK, -, -, -⟩ := id X
  obtain ⟨⟨g1, g2, g3, g4, g5⟩, gd⟩ := g
  refine va_runV (As := As) (rest := rest) ⟨hx, hb, hml, hown, hts⟩ (hM H.size) (cwV n hts ?_ rfl rfl rfl gd hR.1) ⟨PX_blind _ _, va_recv hK hH.1 (ci := ci) (q0 := q0) hc (by rw [wd_get hq, he]), fun U hU hW => PX_at X hH _ U hU hW⟩ rfl hn hsz hst (lv_room hW) hdg hR.2
  intro w hw
  unfold wsV at hw
  rcases List.mem_append.mp hw with h | h
  · simp only [List.mem_cons, List.not_mem_nil, or_false] at h
    rcases h with rfl | rfl | rfl | rfl
    · exact good_law _ g1
    · exact good_law _ g2
    · exact good_law _ g3
    · exact good_law _ g4
  · exact good_c g5 w h
theorem run_N (X : GX p s m meth c args cc nL ret own E) (hH : HH E S s H locs) {q0 ci index maxL k n N : Nat} {fs : List Value} {C host : String} {T : u_T} {y : MethodName} {bytes : ByteArray} {rt : Option FieldType} {As : List Value} {Qe : Nat → Array Value → State → Outcome → State → Prop} {st0 : List Value}
    (hM : Ct l y (.code y bytes maxL rt) k E (.ref (bb E q0) :: As) S Qe) (hnw : va_Nw (.methodLinkNest own index y host) s) (g : GN C y (.code y bytes maxL rt) n) (hq : q0 < 54) (he : en E q0 (S q0) = .inr (ci, fs)) (hc : vwCl[ci]? = some (C, T, N)) (hn : As.length = n) (hsz : ls.size = nL) (hR : RoomOK R k cells slots maxL) (hW : (rest.map fun v => v.category).sum ≤ 8) (hst : st0 = As.reverse ++ .ref (bb E q0) :: rest) (hdg : decode cc pc = .ok (.invokevirtual index, 3)) :
    va_Run p l e R s m args below meth c H locs cells slots 0 0 (F0 m pc ls st0) rest (Qe H.size (Value.ref (bb E q0) :: As).toArray) (AA E H.size) := by
  obtain ⟨hx, hb, hml, hown, hts, -, -, hK, -, -, -⟩ := id X
  obtain ⟨⟨g2, g3, g4, g5⟩, gd⟩ := g
  exact va_runVN (As := As) (rest := rest) ⟨hx, hb, hml, hown, hts⟩ (hM H.size) ⟨va_cnB n hts (good_c g5) rfl rfl rfl hnw (hts _ g4) gd hR.1, hts _ g2, hts _ g3⟩ ⟨PX_blind _ _, va_recv hK hH.1 (ci := ci) (q0 := q0) hc (by rw [wd_get hq, he]), fun U hU hW => PX_at X hH _ U hU hW⟩ rfl hn hsz hst (lv_room hW) hdg hR.2
theorem run_S (X : GX p s m meth c args cc nL ret own E) (hH : HH E S s H locs) {index maxL k n : Nat} {y : MethodName} {bytes : ByteArray} {rt : Option FieldType} {As : List Value} {Qe : Nat → Array Value → State → Outcome → State → Prop} {st0 : List Value}
    (hM : Ct l y (.code y bytes maxL rt) k E As S Qe) (g : GS own index y (.code y bytes maxL rt) n) (hn : As.length = n) (hsz : ls.size = nL) (hR : RoomOK R k cells slots maxL) (hW : (rest.map fun v => v.category).sum ≤ 8) (hst : st0 = As.reverse ++ rest) (hdg : decode cc pc = .ok (.invokestatic index, 3)) :
    va_Run p l e R s m args below meth c H locs cells slots 0 0 (F0 m pc ls st0) rest (Qe H.size As.toArray) (AA E H.size) := by
  obtain ⟨hx, hb, hml, hown, hts, -, -, hK, -, -, -⟩ := id X
  obtain ⟨⟨g1, g2, g3, g4⟩, gd⟩ := g
  refine va_runS (As := As) (rest := rest) ⟨hx, hb, hml, hown, hts⟩ (hM H.size) (va_cwS n hts ?_ rfl rfl rfl gd hR.1) ⟨PX_blind _ _, fun U hU hW => PX_at X hH _ U hU hW⟩ rfl hn hsz hst (lv_room hW) hdg hR.2
  intro w hw
  unfold va_wsS at hw
  rcases List.mem_append.mp hw with h | h
  · simp only [List.mem_cons, List.not_mem_nil, or_false] at h
    rcases h with rfl | rfl | rfl
    · exact good_law _ g1
    · exact good_law _ g2
    · exact good_law _ g3
  · exact good_c g4 w h
theorem go_i (hH : HH E S s H locs) {r : Int32} {a : Array Value} {st0 : List Value} (hr : va_Run p l e R s m args below meth c H locs cells slots 0 0 (F0 m pc ls st0) rest (QI E r S1 H.size a) (AA E H.size))
    (kk : ∀ (H1 : Heap) (locs1 : List Loc), HH E S1 s H1 locs1 → W p l e R s m args below meth c H1 locs1 cells slots Q (F0 m (pc + 3) ls (.int r :: rest))) : W p l e R s m args below meth c H locs cells slots Q (F0 m pc ls st0) := by
  refine va_calli hr hH.2 (fun q _ h => AA_lt hH q h) (fun q h => AA_lt hH q h) (fun r' u t H1 locs1 ht hvm hw hB hz1 hk1 hS => ?_)
  subst hw
  subst ht
  exact kk _ _ ⟨hB, hS⟩
theorem go_l (hH : HH E S s H locs) {r : Int64} {a : Array Value} {st0 : List Value} (hr : va_Run p l e R s m args below meth c H locs cells slots 0 0 (F0 m pc ls st0) rest (QL E r S1 H.size a) (AA E H.size))
    (kk : ∀ (H1 : Heap) (locs1 : List Loc), HH E S1 s H1 locs1 → W p l e R s m args below meth c H1 locs1 cells slots Q (F0 m (pc + 3) ls (.long r :: rest))) : W p l e R s m args below meth c H locs cells slots Q (F0 m pc ls st0) := by
  refine va_calll hr hH.2 (fun q _ h => AA_lt hH q h) (fun q h => AA_lt hH q h) (fun r' u t H1 locs1 ht hvm hw hB hz1 hk1 hS => ?_)
  subst hw
  subst ht
  exact kk _ _ ⟨hB, hS⟩
theorem go_v (hH : HH E S s H locs) {r : Unit} {a : Array Value} {st0 : List Value} (hr : va_Run p l e R s m args below meth c H locs cells slots 0 0 (F0 m pc ls st0) rest (QV E r S1 H.size a) (AA E H.size))
    (kk : ∀ (H1 : Heap) (locs1 : List Loc), HH E S1 s H1 locs1 → W p l e R s m args below meth c H1 locs1 cells slots Q (F0 m (pc + 3) ls rest)) : W p l e R s m args below meth c H locs cells slots Q (F0 m pc ls st0) := by
  refine va_callv hr hH.2 (fun q _ h => AA_lt hH q h) (fun q h => AA_lt hH q h) (fun u t H1 locs1 ht hvm hw hB hz1 hk1 hS => ?_)
  subst ht
  exact kk _ _ ⟨hB, hS⟩
theorem go_q (hH : HH E S s H locs) {o : Nat} {r : Option Nat} {a : Array Value} {st0 : List Value} (hr : va_Run p l e R s m args below meth c H locs cells slots 0 0 (F0 m pc ls st0) rest (QQ o E r S1 H.size a) (AA E H.size))
    (kk : ∀ (H1 : Heap) (locs1 : List Loc), HH E S1 s H1 locs1 → W p l e R s m args below meth c H1 locs1 cells slots Q (F0 m (pc + 3) ls (va_rf (r.map (fun j => bb E (o + j))) :: rest))) : W p l e R s m args below meth c H locs cells slots Q (F0 m pc ls st0) := by
  refine va_callq hr hH.2 (fun q _ h => AA_lt hH q h) (fun q h => AA_lt hH q h) (fun r' u t H1 locs1 ht hvm hw hB hz1 hk1 hS => ?_)
  subst hw
  subst ht
  exact kk _ _ ⟨hB, hS⟩
theorem r_iret (X : GX p s m meth c args cc nL (some .int) own E) (hH : HH E S s H locs) {v r : Int32} (hf : some (v, S) = some (r, S1)) (hdg : decode cc pc = .ok (.ireturn, 1)) : W p l e R s m args below meth c H locs cells slots (MQ below (QI E r S1 s.heap.size) args s cells slots (AA E s.heap.size)) (F0 m pc ls [.int v]) := by
  obtain ⟨hx, hb, hml, hown, hts, hlocks, hr, hK, -, -, -⟩ := X
  cases hf
  exact W.iret hx hb hr (fun t ht _ => ⟨⟨v, (), rfl, rfl, by show va_P _ _ _ t.heap; rw [ht]; exact hH.1⟩, hH.2.F ht⟩) hH.2.2.2 hdg hlocks
theorem r_zret (X : GX p s m meth c args cc nL (some .boolean) own E) (hH : HH E S s H locs) {v r : Int32} (hn : narrow .boolean (.int v) = .int v) (hf : some (v, S) = some (r, S1)) (hdg : decode cc pc = .ok (.ireturn, 1)) : W p l e R s m args below meth c H locs cells slots (MQ below (QI E r S1 s.heap.size) args s cells slots (AA E s.heap.size)) (F0 m pc ls [.int v]) := by
  obtain ⟨hx, hb, hml, hown, hts, hlocks, hr, hK, -, -, -⟩ := X
  cases hf
  exact W.zret hx hb hr hn (fun t ht _ => ⟨⟨v, (), rfl, rfl, by show va_P _ _ _ t.heap; rw [ht]; exact hH.1⟩, hH.2.F ht⟩) hH.2.2.2 hdg hlocks
theorem r_lret (X : GX p s m meth c args cc nL (some .long) own E) (hH : HH E S s H locs) {v r : Int64} (hf : some (v, S) = some (r, S1)) (hdg : decode cc pc = .ok (.lreturn, 1)) : W p l e R s m args below meth c H locs cells slots (MQ below (QL E r S1 s.heap.size) args s cells slots (AA E s.heap.size)) (F0 m pc ls [.long v]) := by
  obtain ⟨hx, hb, hml, hown, hts, hlocks, hr, hK, -, -, -⟩ := X
  cases hf
  exact W.lret hx hb hr (fun t ht _ => ⟨⟨v, (), rfl, rfl, by show va_P _ _ _ t.heap; rw [ht]; exact hH.1⟩, hH.2.F ht⟩) hH.2.2.2 hdg hlocks
theorem r_vret (X : GX p s m meth c args cc nL none own E) (hH : HH E S s H locs) {r : Unit} (hf : some ((), S) = some (r, S1)) (hdg : decode cc pc = .ok (.return_, 1)) : W p l e R s m args below meth c H locs cells slots (MQ below (QV E r S1 s.heap.size) args s cells slots (AA E s.heap.size)) (F0 m pc ls []) := by
  obtain ⟨hx, hb, hml, hown, hts, hlocks, hr, hK, -, -, -⟩ := X
  cases hf
  exact W.vret hx hb hr (fun t ht _ => ⟨⟨(), rfl, trivial, by show va_P _ _ _ t.heap; rw [ht]; exact hH.1⟩, hH.2.F ht⟩) hH.2.2.2 hdg hlocks
theorem r_aret {o : Nat} {C : String} (X : GX p s m meth c args cc nL (some (.object C)) own E) (hH : HH E S s H locs) {v : Value} {r0 r : Option Nat} (hv : v = va_rf (r0.map (fun j => bb E (o + j)))) (hf : some (r0, S) = some (r, S1)) (hdg : decode cc pc = .ok (.areturn, 1)) : W p l e R s m args below meth c H locs cells slots (MQ below (QQ o E r S1 s.heap.size) args s cells slots (AA E s.heap.size)) (F0 m pc ls [v]) := by
  obtain ⟨hx, hb, hml, hown, hts, hlocks, hr, hK, -, -, -⟩ := X
  cases hf
  subst hv
  refine W.aret hx hb hr (Or.inl ⟨_, rfl⟩) ?_ (fun t ht _ => ⟨⟨_, (), rfl, rfl, by show va_P _ _ _ t.heap; rw [ht]; exact hH.1⟩, hH.2.F ht⟩) hH.2.2.2 hdg hlocks
  cases r0 with
  | none => exact Or.inl rfl
  | some j => exact Or.inr ⟨_, rfl⟩
end calls
