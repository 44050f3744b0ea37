set_option maxRecDepth 100000 in
set_option maxHeartbeats 4000000 in
theorem fin_wd {D : va_G} {A : Nat → Prop} {s : State} {H : Heap} {q1 q2 q3 q5 q6 q8 q9 q11 q12 q14 q16 q17 q19 q20 q22 q23 q25 q26 q28 q29 q31 q33 q35 q36 q38 q39 q41 q42 q44 q45 q47 q49 q51 q52 q54 q56 q58 q60 q62 q64 q66 q68 q70 q72 q74 q76 q78 q80 q82 q84 q86 q88 q90 q92 : Nat} {c4 c7 c10 c13 c15 c18 c21 c24 c27 c30 c32 c34 c37 c40 c43 c46 c48 c50 c53 c55 c57 c59 c61 c63 c65 c67 c69 c71 c73 c75 c77 c79 c81 c83 c85 c87 c89 c91 c93 : ClassId} (hP : va_P D vwCl [(q1, .inr (5, [.ref q2, .ref q16, .ref q28, .ref q33, .ref q47, .ref q49, .int 0, .int (0 : Int32), .int 0, .int 0, .int (0 : Int32)])), (q2, .inr (0, [.int 0, .ref q3, .ref q14])), (q3, .inl (c4, 3, .inr (.inr (.inr (.inr (va_up (va_up (va_up (fun _ => none) ((0 : Int32)).toNatClampNeg (some q5)) ((1 : Int32)).toNatClampNeg (some q8)) ((2 : Int32)).toNatClampNeg (some q11))))))), (q5, .inr (1, [.int 0, .int 0, .int 0, .ref q6])), (q6, .inl (c7, 4, .inl (fun _ => 0))), (q8, .inr (1, [.int 0, .int 0, .int 0, .ref q9])), (q9, .inl (c10, 4, .inl (fun _ => 0))), (q11, .inr (1, [.int 0, .int 0, .int 0, .ref q12])), (q12, .inl (c13, 4, .inl (fun _ => 0))), (q14, .inl (c15, 23211, .inl (fun _ => 0))), (q16, .inr (2, [.ref q17, .int 0, .ref q19, .int 0])), (q17, .inl (c18, 3, .inr (.inr (.inr (.inr (va_up (va_up (va_up (fun _ => none) ((0 : Int32)).toNatClampNeg (some q19)) ((1 : Int32)).toNatClampNeg (some q22)) ((2 : Int32)).toNatClampNeg (some q25))))))), (q19, .inr (1, [.int 0, .int 0, .int 0, .ref q20])), (q20, .inl (c21, 4, .inl (fun _ => 0))), (q22, .inr (1, [.int 0, .int 0, .int 0, .ref q23])), (q23, .inl (c24, 4, .inl (fun _ => 0))), (q25, .inr (1, [.int 0, .int 0, .int 0, .ref q26])), (q26, .inl (c27, 4, .inl (fun _ => 0))), (q28, .inr (3, [.ref q29, .ref q31, .int 0])), (q29, .inl (c30, 7737, .inl (fun _ => 0))), (q31, .inl (c32, 7737, .inl (fun _ => 0))), (q33, .inl (c34, 4, .inr (.inr (.inr (.inr (va_up (va_up (va_up (va_up (fun _ => none) ((0 : Int32)).toNatClampNeg (some q35)) ((1 : Int32)).toNatClampNeg (some q38)) ((2 : Int32)).toNatClampNeg (some q41)) ((3 : Int32)).toNatClampNeg (some q44))))))), (q35, .inr (4, [.int (-1 : Int32), .int 0, .ref q36])), (q36, .inl (c37, 60, .inl (fun _ => 0))), (q38, .inr (4, [.int (-1 : Int32), .int 0, .ref q39])), (q39, .inl (c40, 60, .inl (fun _ => 0))), (q41, .inr (4, [.int (-1 : Int32), .int 0, .ref q42])), (q42, .inl (c43, 60, .inl (fun _ => 0))), (q44, .inr (4, [.int (-1 : Int32), .int 0, .ref q45])), (q45, .inl (c46, 60, .inl (fun _ => 0))), (q47, .inl (c48, 8, .inl (fun _ => 0))), (q49, .inl (c50, 8, .inl (fun _ => 0))), (q51, .inr (6, [.int 0, .int 0, .ref q52, .ref q54, .ref q56, .int 0, .int 0, .int 0, .ref q58, .ref q60, .ref q62, .ref q64, .int 0, .int 0, .ref q66, .ref q68, .ref q70, .ref q72, .ref q74, .ref q76, .int 0, .int 0, .int 0, .ref q78, .ref q80, .ref q82, .int 0, .int 0, .int 0, .ref q84, .ref q86, .ref q88, .int 0, .ref q90, .ref q92])), (q52, .inl (c53, 4, .inl (upd (upd (upd (upd (fun _ => 0) ((0 : Int32)).toNatClampNeg (-9 : Int32)) ((1 : Int32)).toNatClampNeg (-9 : Int32)) ((2 : Int32)).toNatClampNeg (-9 : Int32)) ((3 : Int32)).toNatClampNeg (-9 : Int32)))), (q54, .inl (c55, 4, .inl (fun _ => 0))), (q56, .inl (c57, 240, .inl (fun _ => 0))), (q58, .inl (c59, 3, .inl (fun _ => 0))), (q60, .inl (c61, 3, .inl (fun _ => 0))), (q62, .inl (c63, 3, .inl (fun _ => 0))), (q64, .inl (c65, 12, .inl (fun _ => 0))), (q66, .inl (c67, 3, .inl (fun _ => 0))), (q68, .inl (c69, 3, .inl (fun _ => 0))), (q70, .inl (c71, 3, .inl (fun _ => 0))), (q72, .inl (c73, 12, .inl (fun _ => 0))), (q74, .inl (c75, 3, .inl (fun _ => 0))), (q76, .inl (c77, 5, .inl (fun _ => 0))), (q78, .inl (c79, 3, .inl (fun _ => 0))), (q80, .inl (c81, 3, .inl (fun _ => 0))), (q82, .inl (c83, 3, .inl (fun _ => 0))), (q84, .inl (c85, 85107, .inl (fun _ => 0))), (q86, .inl (c87, 7737, .inl (fun _ => 0))), (q88, .inl (c89, 7737, .inl (fun _ => 0))), (q90, .inl (c91, 8, .inl (fun _ => 0))), (q92, .inl (c93, 8, .inl (fun _ => 0)))] H) (hD : va_D A [(q1, .inr (5, [.ref q2, .ref q16, .ref q28, .ref q33, .ref q47, .ref q49, .int 0, .int (0 : Int32), .int 0, .int 0, .int (0 : Int32)])), (q2, .inr (0, [.int 0, .ref q3, .ref q14])), (q3, .inl (c4, 3, .inr (.inr (.inr (.inr (va_up (va_up (va_up (fun _ => none) ((0 : Int32)).toNatClampNeg (some q5)) ((1 : Int32)).toNatClampNeg (some q8)) ((2 : Int32)).toNatClampNeg (some q11))))))), (q5, .inr (1, [.int 0, .int 0, .int 0, .ref q6])), (q6, .inl (c7, 4, .inl (fun _ => 0))), (q8, .inr (1, [.int 0, .int 0, .int 0, .ref q9])), (q9, .inl (c10, 4, .inl (fun _ => 0))), (q11, .inr (1, [.int 0, .int 0, .int 0, .ref q12])), (q12, .inl (c13, 4, .inl (fun _ => 0))), (q14, .inl (c15, 23211, .inl (fun _ => 0))), (q16, .inr (2, [.ref q17, .int 0, .ref q19, .int 0])), (q17, .inl (c18, 3, .inr (.inr (.inr (.inr (va_up (va_up (va_up (fun _ => none) ((0 : Int32)).toNatClampNeg (some q19)) ((1 : Int32)).toNatClampNeg (some q22)) ((2 : Int32)).toNatClampNeg (some q25))))))), (q19, .inr (1, [.int 0, .int 0, .int 0, .ref q20])), (q20, .inl (c21, 4, .inl (fun _ => 0))), (q22, .inr (1, [.int 0, .int 0, .int 0, .ref q23])), (q23, .inl (c24, 4, .inl (fun _ => 0))), (q25, .inr (1, [.int 0, .int 0, .int 0, .ref q26])), (q26, .inl (c27, 4, .inl (fun _ => 0))), (q28, .inr (3, [.ref q29, .ref q31, .int 0])), (q29, .inl (c30, 7737, .inl (fun _ => 0))), (q31, .inl (c32, 7737, .inl (fun _ => 0))), (q33, .inl (c34, 4, .inr (.inr (.inr (.inr (va_up (va_up (va_up (va_up (fun _ => none) ((0 : Int32)).toNatClampNeg (some q35)) ((1 : Int32)).toNatClampNeg (some q38)) ((2 : Int32)).toNatClampNeg (some q41)) ((3 : Int32)).toNatClampNeg (some q44))))))), (q35, .inr (4, [.int (-1 : Int32), .int 0, .ref q36])), (q36, .inl (c37, 60, .inl (fun _ => 0))), (q38, .inr (4, [.int (-1 : Int32), .int 0, .ref q39])), (q39, .inl (c40, 60, .inl (fun _ => 0))), (q41, .inr (4, [.int (-1 : Int32), .int 0, .ref q42])), (q42, .inl (c43, 60, .inl (fun _ => 0))), (q44, .inr (4, [.int (-1 : Int32), .int 0, .ref q45])), (q45, .inl (c46, 60, .inl (fun _ => 0))), (q47, .inl (c48, 8, .inl (fun _ => 0))), (q49, .inl (c50, 8, .inl (fun _ => 0))), (q51, .inr (6, [.int 0, .int 0, .ref q52, .ref q54, .ref q56, .int 0, .int 0, .int 0, .ref q58, .ref q60, .ref q62, .ref q64, .int 0, .int 0, .ref q66, .ref q68, .ref q70, .ref q72, .ref q74, .ref q76, .int 0, .int 0, .int 0, .ref q78, .ref q80, .ref q82, .int 0, .int 0, .int 0, .ref q84, .ref q86, .ref q88, .int 0, .ref q90, .ref q92])), (q52, .inl (c53, 4, .inl (upd (upd (upd (upd (fun _ => 0) ((0 : Int32)).toNatClampNeg (-9 : Int32)) ((1 : Int32)).toNatClampNeg (-9 : Int32)) ((2 : Int32)).toNatClampNeg (-9 : Int32)) ((3 : Int32)).toNatClampNeg (-9 : Int32)))), (q54, .inl (c55, 4, .inl (fun _ => 0))), (q56, .inl (c57, 240, .inl (fun _ => 0))), (q58, .inl (c59, 3, .inl (fun _ => 0))), (q60, .inl (c61, 3, .inl (fun _ => 0))), (q62, .inl (c63, 3, .inl (fun _ => 0))), (q64, .inl (c65, 12, .inl (fun _ => 0))), (q66, .inl (c67, 3, .inl (fun _ => 0))), (q68, .inl (c69, 3, .inl (fun _ => 0))), (q70, .inl (c71, 3, .inl (fun _ => 0))), (q72, .inl (c73, 12, .inl (fun _ => 0))), (q74, .inl (c75, 3, .inl (fun _ => 0))), (q76, .inl (c77, 5, .inl (fun _ => 0))), (q78, .inl (c79, 3, .inl (fun _ => 0))), (q80, .inl (c81, 3, .inl (fun _ => 0))), (q82, .inl (c83, 3, .inl (fun _ => 0))), (q84, .inl (c85, 85107, .inl (fun _ => 0))), (q86, .inl (c87, 7737, .inl (fun _ => 0))), (q88, .inl (c89, 7737, .inl (fun _ => 0))), (q90, .inl (c91, 8, .inl (fun _ => 0))), (q92, .inl (c93, 8, .inl (fun _ => 0)))]) (hK : va_K D vwCl [(c4, .object "MacroKeys$Macro"), (c7, .int), (c10, .int), (c13, .int), (c15, .int), (c18, .object "MacroKeys$Macro"), (c21, .int), (c24, .int), (c27, .int), (c30, .int), (c32, .int), (c34, .object "MacroKeys$Sheet"), (c37, .int), (c40, .int), (c43, .int), (c46, .int), (c48, .int), (c50, .int), (c53, .int), (c55, .int), (c57, .int), (c59, .int), (c61, .int), (c63, .int), (c65, .int), (c67, .int), (c69, .int), (c71, .int), (c73, .int), (c75, .int), (c77, .int), (c79, .int), (c81, .int), (c83, .int), (c85, .int), (c87, .int), (c89, .int), (c91, .int), (c93, .int)] s) : ∃ E : Ev, E.1 = D ∧ bb E 0 = q1 ∧ bb E 32 = q51 ∧ va_P E.1 vwCl (wd E S_0) H ∧ inj E ∧ (∀ k, k < 54 → A (bb E k)) ∧ va_K E.1 vwCl (tyl E) s := by
  have ec : c7 = c10 := Option.some.inj ((hK.2 1 _ rfl).2.symm.trans (hK.2 2 _ rfl).2)
  subst ec
  have ec : c7 = c13 := Option.some.inj ((hK.2 1 _ rfl).2.symm.trans (hK.2 3 _ rfl).2)
  subst ec
  have ec : c7 = c15 := Option.some.inj ((hK.2 1 _ rfl).2.symm.trans (hK.2 4 _ rfl).2)
  subst ec
  have ec : c7 = c21 := Option.some.inj ((hK.2 1 _ rfl).2.symm.trans (hK.2 6 _ rfl).2)
  subst ec
  have ec : c7 = c24 := Option.some.inj ((hK.2 1 _ rfl).2.symm.trans (hK.2 7 _ rfl).2)
  subst ec
  have ec : c7 = c27 := Option.some.inj ((hK.2 1 _ rfl).2.symm.trans (hK.2 8 _ rfl).2)
  subst ec
  have ec : c7 = c30 := Option.some.inj ((hK.2 1 _ rfl).2.symm.trans (hK.2 9 _ rfl).2)
  subst ec
  have ec : c7 = c32 := Option.some.inj ((hK.2 1 _ rfl).2.symm.trans (hK.2 10 _ rfl).2)
  subst ec
  have ec : c7 = c37 := Option.some.inj ((hK.2 1 _ rfl).2.symm.trans (hK.2 12 _ rfl).2)
  subst ec
  have ec : c7 = c40 := Option.some.inj ((hK.2 1 _ rfl).2.symm.trans (hK.2 13 _ rfl).2)
  subst ec
  have ec : c7 = c43 := Option.some.inj ((hK.2 1 _ rfl).2.symm.trans (hK.2 14 _ rfl).2)
  subst ec
  have ec : c7 = c46 := Option.some.inj ((hK.2 1 _ rfl).2.symm.trans (hK.2 15 _ rfl).2)
  subst ec
  have ec : c7 = c48 := Option.some.inj ((hK.2 1 _ rfl).2.symm.trans (hK.2 16 _ rfl).2)
  subst ec
  have ec : c7 = c50 := Option.some.inj ((hK.2 1 _ rfl).2.symm.trans (hK.2 17 _ rfl).2)
  subst ec
  have ec : c7 = c53 := Option.some.inj ((hK.2 1 _ rfl).2.symm.trans (hK.2 18 _ rfl).2)
  subst ec
  have ec : c7 = c55 := Option.some.inj ((hK.2 1 _ rfl).2.symm.trans (hK.2 19 _ rfl).2)
  subst ec
  have ec : c7 = c57 := Option.some.inj ((hK.2 1 _ rfl).2.symm.trans (hK.2 20 _ rfl).2)
  subst ec
  have ec : c7 = c59 := Option.some.inj ((hK.2 1 _ rfl).2.symm.trans (hK.2 21 _ rfl).2)
  subst ec
  have ec : c7 = c61 := Option.some.inj ((hK.2 1 _ rfl).2.symm.trans (hK.2 22 _ rfl).2)
  subst ec
  have ec : c7 = c63 := Option.some.inj ((hK.2 1 _ rfl).2.symm.trans (hK.2 23 _ rfl).2)
  subst ec
  have ec : c7 = c65 := Option.some.inj ((hK.2 1 _ rfl).2.symm.trans (hK.2 24 _ rfl).2)
  subst ec
  have ec : c7 = c67 := Option.some.inj ((hK.2 1 _ rfl).2.symm.trans (hK.2 25 _ rfl).2)
  subst ec
  have ec : c7 = c69 := Option.some.inj ((hK.2 1 _ rfl).2.symm.trans (hK.2 26 _ rfl).2)
  subst ec
  have ec : c7 = c71 := Option.some.inj ((hK.2 1 _ rfl).2.symm.trans (hK.2 27 _ rfl).2)
  subst ec
  have ec : c7 = c73 := Option.some.inj ((hK.2 1 _ rfl).2.symm.trans (hK.2 28 _ rfl).2)
  subst ec
  have ec : c7 = c75 := Option.some.inj ((hK.2 1 _ rfl).2.symm.trans (hK.2 29 _ rfl).2)
  subst ec
  have ec : c7 = c77 := Option.some.inj ((hK.2 1 _ rfl).2.symm.trans (hK.2 30 _ rfl).2)
  subst ec
  have ec : c7 = c79 := Option.some.inj ((hK.2 1 _ rfl).2.symm.trans (hK.2 31 _ rfl).2)
  subst ec
  have ec : c7 = c81 := Option.some.inj ((hK.2 1 _ rfl).2.symm.trans (hK.2 32 _ rfl).2)
  subst ec
  have ec : c7 = c83 := Option.some.inj ((hK.2 1 _ rfl).2.symm.trans (hK.2 33 _ rfl).2)
  subst ec
  have ec : c7 = c85 := Option.some.inj ((hK.2 1 _ rfl).2.symm.trans (hK.2 34 _ rfl).2)
  subst ec
  have ec : c7 = c87 := Option.some.inj ((hK.2 1 _ rfl).2.symm.trans (hK.2 35 _ rfl).2)
  subst ec
  have ec : c7 = c89 := Option.some.inj ((hK.2 1 _ rfl).2.symm.trans (hK.2 36 _ rfl).2)
  subst ec
  have ec : c7 = c91 := Option.some.inj ((hK.2 1 _ rfl).2.symm.trans (hK.2 37 _ rfl).2)
  subst ec
  have ec : c7 = c93 := Option.some.inj ((hK.2 1 _ rfl).2.symm.trans (hK.2 38 _ rfl).2)
  subst ec
  have ec : c4 = c18 := RA_eq (hK.2 0 _ rfl).2 (hK.2 5 _ rfl).2
  subst ec
  obtain ⟨E, hE⟩ : ∃ E : Ev, E = (D, c7, c4, c34, fun k => ([q1, q2, q3, q14, q16, q17, q28, q29, q31, q33, q47, q49, q35, q38, q41, q44, q36, q39, q42, q45, q5, q8, q11, q19, q22, q25, q6, q9, q12, q20, q23, q26, q51, q52, q54, q56, q58, q60, q62, q64, q66, q68, q70, q72, q74, q76, q78, q80, q82, q84, q86, q88, q90, q92] : List Nat).getD k 0) := ⟨_, rfl⟩
  have hP9 : va_P E.1 vwCl (WLb E) H := by subst hE; exact hP
  have hD9 : va_D A (WLb E) := by subst hE; exact hD
  have hk9 := hK.sub (tys' := [(c7, .int), (c4, .object "MacroKeys$Macro"), (c34, .object "MacroKeys$Sheet")]) [1, 0, 11] rfl
  clear hP hD hK
  refine ⟨E, by rw [hE], by rw [hE]; rfl, by rw [hE]; rfl, to_wd hP9, to_inj hD9, to_A hD9, ?_⟩
  rw [hE]
  exact hk9
