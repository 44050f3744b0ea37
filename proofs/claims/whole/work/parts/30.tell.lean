/-! tell, click, as -/
theorem leave_at (N : Nat) (S : St) (x : Int32) : f_X6_leave N S x = some ((), st S 0 9 (nI 31 * S 0 9 + x)) := by rw [f_X6_leave, bnd_e]
theorem begins_at (N : Nat) (S : St) (x : Int32) : f_X7_begins N S x = some ((), st S 32 1 (nI 31 * S 32 1 + x)) := by rw [f_X7_begins, bnd_e]
theorem plain_at (N : Nat) (S : St) {j : Nat} : f_X6_plainTells N S j = some (S (20 + j) 1, st S 0 9 (nI 31 * S 0 9 + nI 1)) := by rw [f_X6_plainTells, leave_at, cal_s, st_ne (by omega)]
theorem broad_at (N : Nat) (S : St) {j : Nat} : f_X6_broadTells N S j = some (S (20 + j) 1 + nI 100, st (st S 0 9 (nI 31 * S 0 9 + nI 2)) 0 9 (nI 31 * (nI 31 * S 0 9 + nI 2) + nI 1)) := by rw [f_X6_broadTells, leave_at, cal_s, plain_at, cal_s, st_ne (by omega), st_s]
theorem RC.mac {S : St} {a : Ab} (h : RC S a) {i : Nat} {m : Mac} (hm : a.1[i]? = some m) : S (20 + i) 0 = nI m.1 ∧ S (20 + i) 1 = nI m.2.1 ∧ S (20 + i) 2 = nI m.2.2.length ∧ ∀ j k, m.2.2[j]? = some k → S (26 + i) j = nI k := h.2.1.2.1.2 i m hm
theorem RM.mac {S : St} {a : Ab} (h : RM S a) {i : Nat} {m : Mac} (hm : a.1[i]? = some m) : S 36 i = nI m.1 ∧ S 37 i = nI m.2.1 ∧ S 38 i = nI m.2.2.length ∧ ∀ j k, m.2.2[j]? = some k → S 39 (4 * i + j) = nI k := h.2.1.2 i m hm
theorem b_tell (N : Nat) (x : Int32) : Both (fun S => f_X6_tell N S x) (fun S => f_X7_tell N S x) := by
  refine Both.of fun a ha => ?_
  rcases is_mac a.1 ha.1 x with hx | ⟨i, m, rfl, hm⟩
  · refine ⟨-1, a, fun S hC => ⟨S, ?_, hC, frC.rf S⟩, fun S hM => ⟨S, ?_, hM, frM.rf S⟩⟩
    · show f_X6_tell N S x = _
      rw [f_X6_tell, macroOf_no N hC.2.1 x hx, cal_s, opt_0]
    · show f_X7_tell N S x = _
      rw [f_X7_tell, isMacro_no N hM.2.1 x hx, cal_s, if_pos (by rfl)]
  · have hi := mac_lt hm
    have h3 := ha.1.1
    obtain ⟨m1, m2, m3, m4, m5, m6⟩ := ha.1.2 i m hm
    have hin : inb (nI i) 3 = true := (inb_i (by omega)).mpr (by omega)
    by_cases c1 : m.1 = 1
    · refine ⟨nI (m.2.1 + 100), (a.1, a.2.1, a.2.2.1, nI 31 * (nI 31 * a.2.2.2.1 + nI 2) + nI 1, a.2.2.2.2), fun S hC => ⟨st (st S 0 9 (nI 31 * S 0 9 + nI 2)) 0 9 (nI 31 * (nI 31 * S 0 9 + nI 2) + nI 1), ?_, ?_, (frC.st (by decide) S _ _).tr (frC.st (by decide) _ _ _)⟩, fun S hM => ⟨st (st S 32 1 (nI 31 * S 32 1 + nI 2)) 32 1 (nI 31 * (nI 31 * S 32 1 + nI 2) + nI 1), ?_, ?_, (frM.st (by decide) S _ _).tr (frM.st (by decide) _ _ _)⟩⟩
      · show f_X6_tell N S (nI i) = _
        rw [f_X6_tell, macroOf_ok N hC.2.1 hi, cal_s, opt_1, if_pos (by omega), bnd_e, (hC.mac hm).1, if_pos (by rw [c1]), broad_at, cal_s, (hC.mac hm).2.1, n_add]
      · rw [← hC.2.2.2.2.1]
        exact (hC.trc _).trc _
      · show f_X7_tell N S (nI i) = _
        rw [f_X7_tell, isMacro_ok N ha.1 hM.2.1 hi, cal_s, if_neg (by decide), if_pos hin, bnd_e, if_pos hin, bnd_e, n_cl (by omega), (hM.mac hm).1, if_pos (by rw [c1]), begins_at, cal_s, begins_at, cal_s, (hM.mac hm).2.1, n_add, st_s]
      · rw [← hM.2.2.2.2.1]
        exact (hM.trc _).trc _
    · by_cases c2 : m.1 = 2
      · refine ⟨nI (2 * m.2.1 + 100), (a.1, a.2.1, a.2.2.1, nI 31 * (nI 31 * (nI 31 * (nI 31 * a.2.2.2.1 + nI 3) + nI 2) + nI 1) + nI 1, a.2.2.2.2), fun S hC => ⟨st (st (st (st S 0 9 (nI 31 * S 0 9 + nI 3)) 0 9 (nI 31 * (nI 31 * S 0 9 + nI 3) + nI 2)) 0 9 (nI 31 * (nI 31 * (nI 31 * S 0 9 + nI 3) + nI 2) + nI 1)) 0 9 (nI 31 * (nI 31 * (nI 31 * (nI 31 * S 0 9 + nI 3) + nI 2) + nI 1) + nI 1), ?_, ?_, (((frC.st (by decide) S _ _).tr (frC.st (by decide) _ _ _)).tr (frC.st (by decide) _ _ _)).tr (frC.st (by decide) _ _ _)⟩, fun S hM => ⟨st (st (st (st S 32 1 (nI 31 * S 32 1 + nI 3)) 32 1 (nI 31 * (nI 31 * S 32 1 + nI 3) + nI 2)) 32 1 (nI 31 * (nI 31 * (nI 31 * S 32 1 + nI 3) + nI 2) + nI 1)) 32 1 (nI 31 * (nI 31 * (nI 31 * (nI 31 * S 32 1 + nI 3) + nI 2) + nI 1) + nI 1), ?_, ?_, (((frM.st (by decide) S _ _).tr (frM.st (by decide) _ _ _)).tr (frM.st (by decide) _ _ _)).tr (frM.st (by decide) _ _ _)⟩⟩
        · show f_X6_tell N S (nI i) = _
          rw [f_X6_tell, macroOf_ok N hC.2.1 hi, cal_s, opt_1, if_pos (by omega), bnd_e, (hC.mac hm).1, if_neg (by rw [n_eq (by omega) (by omega)]; exact c1), if_pos (by rw [c2]), f_X6_evenTells, leave_at, cal_s, broad_at, cal_s, plain_at, cal_s, cal_s, st_s, st_s, st_ne (by omega), st_ne (by omega), st_ne (by omega), (hC.mac hm).2.1, n_add, st_ne (by omega), (hC.mac hm).2.1, n_add, show m.2.1 + 100 + m.2.1 = 2 * m.2.1 + 100 by omega]
        · rw [← hC.2.2.2.2.1]
          exact (((hC.trc _).trc _).trc _).trc _
        · show f_X7_tell N S (nI i) = _
          rw [f_X7_tell, isMacro_ok N ha.1 hM.2.1 hi, cal_s, if_neg (by decide), if_pos hin, bnd_e, if_pos hin, bnd_e, n_cl (by omega), (hM.mac hm).1, if_neg (by rw [n_eq (by omega) (by omega)]; exact c1), if_pos (by rw [c2]), begins_at, cal_s, begins_at, cal_s, begins_at, cal_s, begins_at, cal_s, (hM.mac hm).2.1, n_mul, n_add, st_s, st_s, st_s]
        · rw [← hM.2.2.2.2.1]
          exact (((hM.trc _).trc _).trc _).trc _
      · refine ⟨nI m.2.1, (a.1, a.2.1, a.2.2.1, nI 31 * a.2.2.2.1 + nI 1, a.2.2.2.2), fun S hC => ⟨st S 0 9 (nI 31 * S 0 9 + nI 1), ?_, ?_, frC.st (by decide) S _ _⟩, fun S hM => ⟨st S 32 1 (nI 31 * S 32 1 + nI 1), ?_, ?_, frM.st (by decide) S _ _⟩⟩
        · show f_X6_tell N S (nI i) = _
          rw [f_X6_tell, macroOf_ok N hC.2.1 hi, cal_s, opt_1, if_pos (by omega), bnd_e, (hC.mac hm).1, if_neg (by rw [n_eq (by omega) (by omega)]; exact c1), if_neg (by rw [n_eq (by omega) (by omega)]; exact c2), plain_at, cal_s, (hC.mac hm).2.1]
        · rw [← hC.2.2.2.2.1]
          exact hC.trc _
        · show f_X7_tell N S (nI i) = _
          rw [f_X7_tell, isMacro_ok N ha.1 hM.2.1 hi, cal_s, if_neg (by decide), if_pos hin, bnd_e, if_pos hin, bnd_e, n_cl (by omega), (hM.mac hm).1, if_neg (by rw [n_eq (by omega) (by omega)]; exact c1), if_neg (by rw [n_eq (by omega) (by omega)]; exact c2), begins_at, cal_s, (hM.mac hm).2.1]
        · rw [← hM.2.2.2.2.1]
          exact hM.trc _
theorem b_click (N : Nat) (x : Int32) : Both (fun S => f_X6_click N S x) (fun S => f_X7_click N S x) := by
  refine Both.of fun a ha => ?_
  rcases is_mac a.1 ha.1 x with hx | ⟨i, m, rfl, hm⟩
  · refine ⟨-1, a, fun S hC => ⟨S, ?_, hC, frC.rf S⟩, fun S hM => ⟨S, ?_, hM, frM.rf S⟩⟩
    · show f_X6_click N S x = _
      rw [f_X6_click, macroOf_no N hC.2.1 x hx, cal_s, opt_0]
    · show f_X7_click N S x = _
      rw [f_X7_click, isMacro_no N hM.2.1 x hx, cal_s, if_pos (by rfl)]
  · have hi := mac_lt hm
    have h3 := ha.1.1
    obtain ⟨m1, m2, m3, m4, m5, m6⟩ := ha.1.2 i m hm
    have hin : inb (nI i) 3 = true := (inb_i (by omega)).mpr (by omega)
    by_cases c2 : m.1 = 2
    · refine ⟨nI 90, (a.1, a.2.1, a.2.2.1, nI 31 * a.2.2.2.1 + nI 5, a.2.2.2.2), fun S hC => ⟨st S 0 9 (nI 31 * S 0 9 + nI 5), ?_, ?_, frC.st (by decide) S _ _⟩, fun S hM => ⟨st S 32 1 (nI 31 * S 32 1 + nI 5), ?_, ?_, frM.st (by decide) S _ _⟩⟩
      · show f_X6_click N S (nI i) = _
        rw [f_X6_click, macroOf_ok N hC.2.1 hi, cal_s, opt_1, if_pos (by omega), (hC.mac hm).1, if_pos (by rw [c2]), leave_at, cal_s]
      · rw [← hC.2.2.2.2.1]
        exact hC.trc _
      · show f_X7_click N S (nI i) = _
        rw [f_X7_click, isMacro_ok N ha.1 hM.2.1 hi, cal_s, if_neg (by decide), if_pos hin, n_cl (by omega), (hM.mac hm).1, if_pos (by rw [c2]), f_X7_click_26, begins_at, cal_s, if_pos hin, n_cl (by omega), st_ne (by decide), (hM.mac hm).1, if_pos (by rw [c2])]
      · rw [← hM.2.2.2.2.1]
        exact hM.trc _
    · refine ⟨nI m.2.2.length, (a.1, a.2.1, a.2.2.1, nI 31 * a.2.2.2.1 + nI 4, a.2.2.2.2), fun S hC => ⟨st S 0 9 (nI 31 * S 0 9 + nI 4), ?_, ?_, frC.st (by decide) S _ _⟩, fun S hM => ⟨st S 32 1 (nI 31 * S 32 1 + nI 4), ?_, ?_, frM.st (by decide) S _ _⟩⟩
      · show f_X6_click N S (nI i) = _
        rw [f_X6_click, macroOf_ok N hC.2.1 hi, cal_s, opt_1, if_pos (by omega), (hC.mac hm).1, if_neg (by rw [n_eq (by omega) (by omega)]; exact c2), leave_at, cal_s, st_ne (by omega), (hC.mac hm).2.2.1]
      · rw [← hC.2.2.2.2.1]
        exact hC.trc _
      · show f_X7_click N S (nI i) = _
        rw [f_X7_click, isMacro_ok N ha.1 hM.2.1 hi, cal_s, if_neg (by decide), if_pos hin, n_cl (by omega), (hM.mac hm).1, if_neg (by rw [n_eq (by omega) (by omega)]; exact c2), f_X7_click_26, begins_at, cal_s, if_pos hin, n_cl (by omega), st_ne (by decide), (hM.mac hm).1, if_neg (by rw [n_eq (by omega) (by omega)]; exact c2), if_pos hin, st_ne (by decide), (hM.mac hm).2.2.1]
      · rw [← hM.2.2.2.2.1]
        exact hM.trc _
theorem b_as (N : Nat) (x y : Int32) : Both (fun S => f_X6_as N S x y) (fun S => f_X7_as N S x y) := by
  refine Both.of fun a ha => ?_
  rcases is_mac a.1 ha.1 x with hx | ⟨i, m, rfl, hm⟩
  · refine ⟨-1, (a.1, a.2.1, a.2.2.1, a.2.2.2.1, nI 0, a.2.2.2.2.2), fun S hC => ⟨st S 0 10 (nI 0), ?_, hC.flt _, frC.st (by decide) S _ _⟩, fun S hM => ⟨st S 32 0 (nI 0), ?_, hM.flt _, frM.st (by decide) S _ _⟩⟩
    · show f_X6_as N S x y = _
      rw [f_X6_as, bnd_e, macroOf_no N (hC.flt (nI 0)).2.1 x hx, cal_s, opt_0]
    · show f_X7_as N S x y = _
      rw [f_X7_as, bnd_e, isMacro_no N (hM.flt (nI 0)).2.1 x hx, cal_s, if_pos (by rfl)]
  · have hi := mac_lt hm
    have h3 := ha.1.1
    obtain ⟨m1, m2, m3, m4, m5, m6⟩ := ha.1.2 i m hm
    have hin : inb (nI i) 3 = true := (inb_i (by omega)).mpr (by omega)
    by_cases hy : y < 0 ∨ nI 2 < y
    · refine ⟨-2, (a.1, a.2.1, a.2.2.1, a.2.2.2.1, nI 0, a.2.2.2.2.2), fun S hC => ⟨st S 0 10 (nI 0), ?_, hC.flt _, frC.st (by decide) S _ _⟩, fun S hM => ⟨st S 32 0 (nI 0), ?_, hM.flt _, frM.st (by decide) S _ _⟩⟩
      · show f_X6_as N S (nI i) y = _
        rw [f_X6_as, bnd_e, macroOf_ok N (hC.flt (nI 0)).2.1 hi, cal_s, opt_1, if_pos (by omega)]
        by_cases c1 : y < 0
        · rw [if_pos c1]
        · rw [if_neg c1, if_neg (i_lt_nle (hy.resolve_left c1))]
      · show f_X7_as N S (nI i) y = _
        rw [f_X7_as, bnd_e, isMacro_ok N ha.1 (hM.flt (nI 0)).2.1 hi, cal_s, if_neg (by decide), within_no N _ (lo := nI 0) hy, cal_s, if_pos (by rfl)]
    · obtain ⟨n, -, n2, rfl⟩ := rng (lo := 0) (hi := 2) (by decide) (by decide) (fun z => hy (Or.inl z)) (fun z => hy (Or.inr z))
      by_cases ck : m.1 < n
      · refine ⟨(-10 : Int32) - nI 2, (a.1, a.2.1, a.2.2.1, a.2.2.2.1, nI 2, a.2.2.2.2.2), fun S hC => ⟨st (st S 0 10 (nI 0)) 0 10 (nI 2), ?_, (hC.flt _).flt _, (frC.st (by decide) S _ _).tr (frC.st (by decide) _ _ _)⟩, fun S hM => ⟨st (st S 32 0 (nI 0)) 32 0 (nI 2), ?_, (hM.flt _).flt _, (frM.st (by decide) S _ _).tr (frM.st (by decide) _ _ _)⟩⟩
        · show f_X6_as N S (nI i) (nI n) = _
          rw [f_X6_as, bnd_e, macroOf_ok N (hC.flt (nI 0)).2.1 hi, cal_s, opt_1, if_pos (by omega), if_neg (nI_pos (by omega)), if_pos (nI_le n2 (by omega)), ((hC.flt (nI 0)).mac hm).1, if_pos (nI_lt ck (by omega)), f_X6_meet, bnd_e, cal_s]
        · show f_X7_as N S (nI i) (nI n) = _
          rw [f_X7_as, bnd_e, isMacro_ok N ha.1 (hM.flt (nI 0)).2.1 hi, cal_s, if_neg (by decide), within_in N _ (Nat.zero_le _) n2 (by decide), cal_s, if_neg (by decide), if_pos hin, n_cl (by omega), ((hM.flt (nI 0)).mac hm).1, if_pos (nI_lt ck (by omega)), f_X7_fails, bnd_e, cal_s]
      · refine ⟨nI 1, (a.1, a.2.1, a.2.2.1, a.2.2.2.1, nI 0, a.2.2.2.2.2), fun S hC => ⟨st S 0 10 (nI 0), ?_, hC.flt _, frC.st (by decide) S _ _⟩, fun S hM => ⟨st S 32 0 (nI 0), ?_, hM.flt _, frM.st (by decide) S _ _⟩⟩
        · show f_X6_as N S (nI i) (nI n) = _
          rw [f_X6_as, bnd_e, macroOf_ok N (hC.flt (nI 0)).2.1 hi, cal_s, opt_1, if_pos (by omega), if_neg (nI_pos (by omega)), if_pos (nI_le n2 (by omega)), ((hC.flt (nI 0)).mac hm).1, if_neg (nI_nlt (by omega) (by omega))]
        · show f_X7_as N S (nI i) (nI n) = _
          rw [f_X7_as, bnd_e, isMacro_ok N ha.1 (hM.flt (nI 0)).2.1 hi, cal_s, if_neg (by decide), within_in N _ (Nat.zero_le _) n2 (by decide), cal_s, if_neg (by decide), if_pos hin, n_cl (by omega), ((hM.flt (nI 0)).mac hm).1, if_neg (nI_nlt (by omega) (by omega))]
