/-! THE WORLD: 54 cells, ids 0..53: the class's 0..31, the reference's 32..53. A state is S : id -> slot -> Int32 (int fields by their slot, arrays by their index); references never change but Reader.latest, which S 4 2 tells. -/
abbrev St : Type := Nat → Nat → Int32
abbrev Ev : Type := va_G × ClassId × ClassId × ClassId × (Nat → Nat)
def bb (E : Ev) : Nat → Nat := E.2.2.2.2
def st (S : St) (q k : Nat) (v : Int32) : St := fun a c => if a = q ∧ c = k then v else S a c
def sr (S : St) (q : Nat) (f : Nat → Int32) : St := fun a => if a = q then f else S a
def inb (i : Int32) (n : Nat) : Bool := decide (¬ (i < 0 ∨ n ≤ i.toNatClampNeg))
theorem inb_in {i : Int32} {n : Nat} (h : inb i n = true) : vp_in i n := of_decide_eq_true (p := ¬ (i < 0 ∨ n ≤ i.toNatClampNeg)) h
def bnd {α β : Type} (e : α) (k : α → β) : β := k e
def cal {α β : Type} (o : Option (α × St)) (k : α → St → Option β) : Option β := match o with
  | none => none
  | some a => k a.1 a.2
theorem bnd_at {α β : Type} {e x : α} {k : α → Option β} {r : β} (ex : x = e) (h : bnd e k = some r) : k x = some r := by subst ex; exact h
theorem bnd_go {α β : Type} {e : α} {k : α → Option β} {r : β} (h : bnd e k = some r) : ∃ x, x = e ∧ k x = some r := ⟨e, rfl, h⟩
theorem ite_t {β : Type} {c : Prop} [Decidable c] {a b : Option β} {r : β} (hc : c) (h : (if c then a else b) = some r) : a = some r := by rw [if_pos hc] at h; exact h
theorem ite_f {β : Type} {c : Prop} [Decidable c] {a b : Option β} {r : β} (hc : ¬ c) (h : (if c then a else b) = some r) : b = some r := by rw [if_neg hc] at h; exact h
theorem ite_g {β : Type} {c : Prop} [Decidable c] {a : Option β} {r : β} (h : (if c then a else none) = some r) : c ∧ a = some r := by
  by_cases hc : c
  · rw [if_pos hc] at h; exact ⟨hc, h⟩
  · rw [if_neg hc] at h; cases h
theorem cal_g {α β : Type} {o : Option (α × St)} {k : α → St → Option β} {r : β} (h : cal o k = some r) : ∃ a s, o = some (a, s) ∧ k a s = some r := by
  cases o with
  | none => cases h
  | some a => exact ⟨a.1, a.2, rfl, h⟩
theorem st_ne {S : St} {q k : Nat} {v : Int32} {a : Nat} (h : a ≠ q) : st S q k v a = S a := by
  funext c
  show (if a = q ∧ c = k then v else S a c) = S a c
  rw [if_neg (fun z => h z.1)]
theorem st_upd {S : St} {q k : Nat} {v : Int32} : st S q k v q = upd (S q) k v := by
  funext c
  show (if q = q ∧ c = k then v else S q c) = (if c = k then v else S q c)
  by_cases h : c = k
  · rw [if_pos ⟨rfl, h⟩, if_pos h]
  · rw [if_neg (fun z => h z.2), if_neg h]
theorem st_s {S : St} {q k : Nat} {v : Int32} : st S q k v q k = v := if_pos ⟨rfl, rfl⟩
theorem st_n {S : St} {q k c : Nat} {v : Int32} (h : c ≠ k) : st S q k v q c = S q c := if_neg (fun z => h z.2)
theorem sr_ne {S : St} {q : Nat} {f : Nat → Int32} {a : Nat} (h : a ≠ q) : sr S q f a = S a := if_neg h
theorem sr_s {S : St} {q : Nat} {f : Nat → Int32} : sr S q f q = f := if_pos rfl
/-- the cell of an id -/
def en (E : Ev) (k : Nat) (f : Nat → Int32) : va_E :=
  if k = 0 then .inr (5, [.ref (bb E 1), .ref (bb E 4), .ref (bb E 6), .ref (bb E 9), .ref (bb E 10), .ref (bb E 11), .int (f 6), .int (f 7), .int (f 8), .int (f 9), .int (f 10)])
  else if k = 1 then .inr (0, [.int (f 0), .ref (bb E 2), .ref (bb E 3)])
  else if k = 2 then .inl (E.2.2.1, 3, .inr (.inr (.inr (.inr (fun i => some (bb E (20 + i)))))))
  else if k = 3 then .inl (E.2.1, 23211, .inl f)
  else if k = 4 then .inr (2, [.ref (bb E 5), .int (f 1), .ref (bb E (20 + (3 + (f 2).toNatClampNeg))), .int (f 3)])
  else if k = 5 then .inl (E.2.2.1, 3, .inr (.inr (.inr (.inr (fun i => some (bb E (20 + (3 + i))))))))
  else if k = 6 then .inr (3, [.ref (bb E 7), .ref (bb E 8), .int (f 2)])
  else if k < 9 then .inl (E.2.1, 7737, .inl f)
  else if k = 9 then .inl (E.2.2.2.1, 4, .inr (.inr (.inr (.inr (fun i => some (bb E (12 + i)))))))
  else if k < 12 then .inl (E.2.1, 8, .inl f)
  else if k < 16 then .inr (4, [.int (f 0), .int (f 1), .ref (bb E (k + 4))])
  else if k < 20 then .inl (E.2.1, 60, .inl f)
  else if k < 26 then .inr (1, [.int (f 0), .int (f 1), .int (f 2), .ref (bb E (k + 6))])
  else if k < 32 then .inl (E.2.1, 4, .inl f)
  else if k = 32 then .inr (6, [.int (f 0), .int (f 1), .ref (bb E 33), .ref (bb E 34), .ref (bb E 35), .int (f 5), .int (f 6), .int (f 7), .ref (bb E 36), .ref (bb E 37), .ref (bb E 38), .ref (bb E 39), .int (f 12), .int (f 13), .ref (bb E 40), .ref (bb E 41), .ref (bb E 42), .ref (bb E 43), .ref (bb E 44), .ref (bb E 45), .int (f 20), .int (f 21), .int (f 22), .ref (bb E 46), .ref (bb E 47), .ref (bb E 48), .int (f 26), .int (f 27), .int (f 28), .ref (bb E 49), .ref (bb E 50), .ref (bb E 51), .int (f 32), .ref (bb E 52), .ref (bb E 53)])
  else if k < 35 then .inl (E.2.1, 4, .inl f)
  else if k = 35 then .inl (E.2.1, 240, .inl f)
  else if k < 39 then .inl (E.2.1, 3, .inl f)
  else if k = 39 then .inl (E.2.1, 12, .inl f)
  else if k < 43 then .inl (E.2.1, 3, .inl f)
  else if k = 43 then .inl (E.2.1, 12, .inl f)
  else if k = 44 then .inl (E.2.1, 3, .inl f)
  else if k = 45 then .inl (E.2.1, 5, .inl f)
  else if k < 49 then .inl (E.2.1, 3, .inl f)
  else if k = 49 then .inl (E.2.1, 85107, .inl f)
  else if k < 52 then .inl (E.2.1, 7737, .inl f)
  else .inl (E.2.1, 8, .inl f)
/-- a row of ints -/
def isA (E : Ev) (q n : Nat) : Prop := q < 54 ∧ ∀ f, en E q f = .inl (E.2.1, n, .inl f)
theorem a_3 (E : Ev) : isA E 3 23211 := ⟨by decide, fun f => by simp [en]⟩
theorem a_7 (E : Ev) : isA E 7 7737 := ⟨by decide, fun f => by simp [en]⟩
theorem a_8 (E : Ev) : isA E 8 7737 := ⟨by decide, fun f => by simp [en]⟩
theorem a_10 (E : Ev) : isA E 10 8 := ⟨by decide, fun f => by simp [en]⟩
theorem a_11 (E : Ev) : isA E 11 8 := ⟨by decide, fun f => by simp [en]⟩
theorem a_sh (E : Ev) {j : Nat} (hj : j < 4) : isA E (16 + j) 60 := ⟨by omega, fun f => by
  rcases (show j = 0 ∨ j = 1 ∨ j = 2 ∨ j = 3 by omega) with rfl | rfl | rfl | rfl <;> simp [en]⟩
theorem a_mk (E : Ev) {j : Nat} (hj : j < 6) : isA E (26 + j) 4 := ⟨by omega, fun f => by
  rcases (show j = 0 ∨ j = 1 ∨ j = 2 ∨ j = 3 ∨ j = 4 ∨ j = 5 by omega) with rfl | rfl | rfl | rfl | rfl | rfl <;> simp [en]⟩
theorem a_33 (E : Ev) : isA E 33 4 := ⟨by decide, fun f => by simp [en]⟩
theorem a_34 (E : Ev) : isA E 34 4 := ⟨by decide, fun f => by simp [en]⟩
theorem a_35 (E : Ev) : isA E 35 240 := ⟨by decide, fun f => by simp [en]⟩
theorem a_36 (E : Ev) : isA E 36 3 := ⟨by decide, fun f => by simp [en]⟩
theorem a_37 (E : Ev) : isA E 37 3 := ⟨by decide, fun f => by simp [en]⟩
theorem a_38 (E : Ev) : isA E 38 3 := ⟨by decide, fun f => by simp [en]⟩
theorem a_39 (E : Ev) : isA E 39 12 := ⟨by decide, fun f => by simp [en]⟩
theorem a_40 (E : Ev) : isA E 40 3 := ⟨by decide, fun f => by simp [en]⟩
theorem a_41 (E : Ev) : isA E 41 3 := ⟨by decide, fun f => by simp [en]⟩
theorem a_42 (E : Ev) : isA E 42 3 := ⟨by decide, fun f => by simp [en]⟩
theorem a_43 (E : Ev) : isA E 43 12 := ⟨by decide, fun f => by simp [en]⟩
theorem a_44 (E : Ev) : isA E 44 3 := ⟨by decide, fun f => by simp [en]⟩
theorem a_45 (E : Ev) : isA E 45 5 := ⟨by decide, fun f => by simp [en]⟩
theorem a_46 (E : Ev) : isA E 46 3 := ⟨by decide, fun f => by simp [en]⟩
theorem a_47 (E : Ev) : isA E 47 3 := ⟨by decide, fun f => by simp [en]⟩
theorem a_48 (E : Ev) : isA E 48 3 := ⟨by decide, fun f => by simp [en]⟩
theorem a_49 (E : Ev) : isA E 49 85107 := ⟨by decide, fun f => by simp [en]⟩
theorem a_50 (E : Ev) : isA E 50 7737 := ⟨by decide, fun f => by simp [en]⟩
theorem a_51 (E : Ev) : isA E 51 7737 := ⟨by decide, fun f => by simp [en]⟩
theorem a_52 (E : Ev) : isA E 52 8 := ⟨by decide, fun f => by simp [en]⟩
theorem a_53 (E : Ev) : isA E 53 8 := ⟨by decide, fun f => by simp [en]⟩
theorem e_0 (E : Ev) (f : Nat → Int32) : en E 0 f = .inr (5, [.ref (bb E 1), .ref (bb E 4), .ref (bb E 6), .ref (bb E 9), .ref (bb E 10), .ref (bb E 11), .int (f 6), .int (f 7), .int (f 8), .int (f 9), .int (f 10)]) := by simp [en]
theorem e_1 (E : Ev) (f : Nat → Int32) : en E 1 f = .inr (0, [.int (f 0), .ref (bb E 2), .ref (bb E 3)]) := by simp [en]
theorem e_2 (E : Ev) (f : Nat → Int32) : en E 2 f = .inl (E.2.2.1, 3, .inr (.inr (.inr (.inr (fun i => some (bb E (20 + i))))))) := by simp [en]
theorem e_4 (E : Ev) (f : Nat → Int32) : en E 4 f = .inr (2, [.ref (bb E 5), .int (f 1), .ref (bb E (20 + (3 + (f 2).toNatClampNeg))), .int (f 3)]) := by simp [en]
theorem e_5 (E : Ev) (f : Nat → Int32) : en E 5 f = .inl (E.2.2.1, 3, .inr (.inr (.inr (.inr (fun i => some (bb E (20 + (3 + i)))))))) := by simp [en]
theorem e_6 (E : Ev) (f : Nat → Int32) : en E 6 f = .inr (3, [.ref (bb E 7), .ref (bb E 8), .int (f 2)]) := by simp [en]
theorem e_9 (E : Ev) (f : Nat → Int32) : en E 9 f = .inl (E.2.2.2.1, 4, .inr (.inr (.inr (.inr (fun i => some (bb E (12 + i))))))) := by simp [en]
theorem e_sh (E : Ev) {j : Nat} (hj : j < 4) (f : Nat → Int32) : en E (12 + j) f = .inr (4, [.int (f 0), .int (f 1), .ref (bb E (16 + j))]) := by
  rcases (show j = 0 ∨ j = 1 ∨ j = 2 ∨ j = 3 by omega) with rfl | rfl | rfl | rfl <;> simp [en]
theorem e_mk (E : Ev) {j : Nat} (hj : j < 6) (f : Nat → Int32) : en E (20 + j) f = .inr (1, [.int (f 0), .int (f 1), .int (f 2), .ref (bb E (26 + j))]) := by
  rcases (show j = 0 ∨ j = 1 ∨ j = 2 ∨ j = 3 ∨ j = 4 ∨ j = 5 by omega) with rfl | rfl | rfl | rfl | rfl | rfl <;> simp [en]
theorem e_32 (E : Ev) (f : Nat → Int32) : en E 32 f = .inr (6, [.int (f 0), .int (f 1), .ref (bb E 33), .ref (bb E 34), .ref (bb E 35), .int (f 5), .int (f 6), .int (f 7), .ref (bb E 36), .ref (bb E 37), .ref (bb E 38), .ref (bb E 39), .int (f 12), .int (f 13), .ref (bb E 40), .ref (bb E 41), .ref (bb E 42), .ref (bb E 43), .ref (bb E 44), .ref (bb E 45), .int (f 20), .int (f 21), .int (f 22), .ref (bb E 46), .ref (bb E 47), .ref (bb E 48), .int (f 26), .int (f 27), .int (f 28), .ref (bb E 49), .ref (bb E 50), .ref (bb E 51), .int (f 32), .ref (bb E 52), .ref (bb E 53)]) := by simp [en]
/-- the world of a state, its region, what else a method's start has: the table FIRST, the links of two private methods -/
def wd (E : Ev) (S : St) : va_W := (List.range 54).map (fun k => (bb E k, en E k (S k)))
def AA (E : Ev) (sz q : Nat) : Prop := (∃ k, k < 54 ∧ q = bb E k) ∨ sz ≤ q
def frs (j : Nat) : Int32 := if j = 0 then 0 else if j = 1 then 1 else if j = 2 then 9 else if j = 3 then 57 else if j = 4 then 313 else 1593
def ZZ (E : Ev) (s : State) : Prop := ∃ t, va_Z "MacroKeys$Line" "FIRST" "[I" (.ref t) (AA E s.heap.size) s s.heap ∧ va_T .int t 6 (fun j => .int (frs j)) (AA E s.heap.size) s s.heap
def NN (s : State) : Prop := va_Nw (.methodLinkNest "MacroKeys" 107 yX0_pressesOf "MacroKeys") s ∧ va_Nw (.methodLinkNest "MacroKeys" 121 yX0_effectOf "MacroKeys") s
def tyl (E : Ev) : List (ClassId × FieldType) := [(E.2.1, .int), (E.2.2.1, .object "MacroKeys$Macro"), (E.2.2.2.1, .object "MacroKeys$Sheet")]
def inj (E : Ev) : Prop := ∀ i j, i < 54 → j < 54 → bb E i = bb E j → i = j
def PX (E : Ev) (S : St) (sz : Nat) (U : State) : Prop := U.heap.size = sz ∧ va_P E.1 vwCl (wd E S) U.heap ∧ va_K E.1 vwCl (tyl E) U ∧ inj E ∧ ZZ E U ∧ NN U
def QX (E : Ev) (S : St) (t : State) : Prop := va_P E.1 vwCl (wd E S) t.heap
def GX (p : Program) (s : State) (m : MethodId) (meth : Method) (c : Code) (args : Array Value) (cc : ByteArray) (nL : Nat) (ret : Option FieldType) (own : String) (E : Ev) : Prop :=
  p.tables.exec = Jvm.exec ∧ c.code = cc ∧ c.maxLocals = nL ∧ s.vm.findClass own = some m.cls ∧ (∀ w ∈ wsL_law, w.before args s = true) ∧ meth.locks = false ∧ meth.sig.returnType = ret ∧ va_K E.1 vwCl (tyl E) s ∧ inj E ∧ ZZ E s ∧ NN s
def HH (E : Ev) (S : St) (s : State) (H : Heap) (locs : List Loc) : Prop := va_P E.1 vwCl (wd E S) H ∧ va_S (AA E s.heap.size) s.heap H locs
theorem wd_get {E : Ev} {S : St} {k : Nat} (h : k < 54) : (wd E S)[k]? = some (bb E k, en E k (S k)) := by
  unfold wd
  rw [List.getElem?_map, List.getElem?_range h]
  rfl
theorem wd_some {E : Ev} {S : St} {k : Nat} {q : Nat × va_E} (h : (wd E S)[k]? = some q) : k < 54 ∧ q = (bb E k, en E k (S k)) := by
  have hk : k < 54 := by
    have := (List.getElem?_eq_some_iff.mp h).1
    simpa [wd] using this
  rw [wd_get hk] at h
  exact ⟨hk, (Option.some.inj h).symm⟩
theorem wd_D {E : Ev} (hi : inj E) (S : St) (sz : Nat) : va_D (AA E sz) (wd E S) := by
  refine ⟨fun i j p q h1 h2 h3 => ?_, fun k q h => ?_⟩
  · obtain ⟨a1, rfl⟩ := wd_some h1
    obtain ⟨a2, rfl⟩ := wd_some h2
    exact hi i j a1 a2 h3
  · obtain ⟨a1, rfl⟩ := wd_some h
    exact Or.inl ⟨k, a1, rfl⟩
theorem wd_set {E : Ev} {S S' : St} {q : Nat} (hq : q < 54) {e : va_E} (he : en E q (S' q) = e) (ho : ∀ a, a ≠ q → S' a = S a) : (wd E S).set q (bb E q, e) = wd E S' := by
  refine List.ext_getElem? (fun k => ?_)
  by_cases hk : k = q
  · subst hk
    rw [List.getElem?_set_self (by simpa [wd] using hq), wd_get hq, he]
  · rw [List.getElem?_set_ne (Ne.symm hk)]
    by_cases h : k < 54
    · rw [wd_get h, wd_get h, ho k hk]
    · rw [List.getElem?_eq_none (by simpa [wd] using Nat.not_lt.mp h), List.getElem?_eq_none (by simpa [wd] using Nat.not_lt.mp h)]
theorem AA_le {E : Ev} {n k q : Nat} (h : n ≤ k) (hq : AA E k q) : AA E n q := hq.elim Or.inl (fun z => Or.inr (Nat.le_trans h z))
theorem ZZ.go {E : Ev} {s U : State} {H : Heap} {locs : List Loc} (h : ZZ E s) (hS : va_S (AA E s.heap.size) s.heap H locs) (hU : U.heap = H) (hv : s.vm.Alike U.vm) : ZZ E U := by
  obtain ⟨t, h1, h2⟩ := h
  subst hU
  exact ⟨t, ((h1.kept (H1 := U.heap) (fun a ha hn => hS.2.1 a ha hn)).moved hv).narrow (fun q hq => AA_le hS.1 hq), ((h2.kept (H1 := U.heap) (fun a ha hn => hS.2.1 a ha hn)).moved hv).narrow (fun q hq => AA_le hS.1 hq)⟩
theorem NN.go {s U : State} (h : NN s) (hW : s.WarmedH U.vm) : NN U := ⟨va_Nw.warmM hW h.1, va_Nw.warmM hW h.2⟩
