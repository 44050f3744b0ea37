/-! put, cell -/
theorem within_len (N : Nat) (S : St) {cnt : Nat} (hc : cnt ≤ 60) (x : Int32) : f_X7_within N S x (nI 0) (nI cnt - nI 1) = some (nI (b01 (fit cnt x (nI 1))), S) := by
  have h1 : (nI cnt - nI 1).toInt = (cnt : Int) - 1 := by
    rcases Nat.eq_zero_or_pos cnt with rfl | h
    · decide
    · rw [n_sub (by omega), nI_toInt (by omega)]; omega
  by_cases c1 : x < 0
  · rw [within_no N S (lo := nI 0) (Or.inl c1)]
    have : fit cnt x (nI 1) = false := by unfold fit; rw [decide_eq_false_iff_not]; rintro ⟨-, h1, -⟩; exact h1 c1
    rw [this]; rfl
  · obtain ⟨i, hi, rfl⟩ := nI_of c1
    rw [fit_i hi (by decide)]
    by_cases c2 : i + 1 ≤ cnt
    · rw [within_ok N S (lo := nI 0) (hi := nI cnt - nI 1) (fun z => c1 z) (fun z => by
        have := Int32.lt_iff_toInt_lt.mp z
        rw [h1, nI_toInt hi] at this
        omega), decide_eq_true c2]; rfl
    · rw [within_no N S (lo := nI 0) (hi := nI cnt - nI 1) (Or.inr (by
        apply Int32.lt_iff_toInt_lt.mpr
        rw [h1, nI_toInt hi]
        omega)), decide_eq_false c2]; rfl
def cutv (lane : Nat) (v : Int32) : Int32 := if lane = 0 then v.toInt8.toInt32 else if lane = 1 then v.toInt16.toInt32 else v
theorem cut_ok (N : Nat) {S : St} {j t : Nat} (h : S (12 + j) 0 = nI t) (ht : t ≤ 2) (v : Int32) : f_X5_cut N S j v = some (cutv t v, S) := by
  rw [f_X5_cut, bnd_e, h]
  unfold cutv
  by_cases c0 : t = 0
  · rw [if_pos (by rw [c0]), if_pos c0]
  · rw [if_neg (by rw [n_eq (by omega) (by omega)]; exact c0), if_neg c0]
    by_cases c1 : t = 1
    · rw [if_pos (by rw [c1]), if_pos c1]
    · rw [if_neg (by rw [n_eq (by omega) (by omega)]; exact c1), if_neg c1]
theorem fit_1 {cnt : Nat} {x : Int32} (h : fit cnt x (nI 1) = true) : ∃ i, i < cnt ∧ x = nI i := by
  unfold fit at h
  rw [decide_eq_true_iff] at h
  obtain ⟨-, h2, h3⟩ := h
  obtain ⟨i, hi, rfl⟩ := nI_of h2
  rw [nI_toInt hi, nI_toInt (by decide)] at h3
  exact ⟨i, by omega, rfl⟩
theorem b_put (N : Nat) (x y z : Int32) : Both (fun S => f_X6_put N S x y z) (fun S => f_X7_put N S x y z) := by
  refine Both.of fun a ha => ?_
  rcases is_sh x with hx | ⟨j, hj, rfl⟩
  · refine ⟨-1, A5 a (nI 0), fun S hC => ⟨st S 0 10 (nI 0), ?_, hC.flt _, frC.st (by decide) S _ _⟩, fun S hM => ⟨st S 32 0 (nI 0), ?_, hM.flt _, frM.st (by decide) S _ _⟩⟩
    · show f_X6_put N S x y z = _
      rw [f_X6_put, bnd_e, sheetOf_no N _ hx, cal_s, opt_0]
    · show f_X7_put N S x y z = _
      rw [f_X7_put, bnd_e, isSheet_no N _ hx, cal_s, if_pos (by rfl)]
  · have hin : inb (nI j) 4 = true := (inb_i (by omega)).mpr hj
    cases hs : a.2.2.2.2.2.2 j with
    | none =>
      refine ⟨(-10 : Int32) - nI 1, A5 a (nI 1), fun S hC => ⟨st (st S 0 10 (nI 0)) 0 10 (nI 1), ?_, (hC.flt _).flt _, (frC.st (by decide) S _ _).tr (frC.st (by decide) _ _ _)⟩, fun S hM => ⟨st (st S 32 0 (nI 0)) 32 0 (nI 1), ?_, (hM.flt _).flt _, (frM.st (by decide) S _ _).tr (frM.st (by decide) _ _ _)⟩⟩
      · show f_X6_put N S (nI j) y z = _
        rw [f_X6_put, bnd_e, sheetOf_ok N _ hj, cal_s, opt_1, if_pos hj, faultOf_ok N (hC.flt (nI 0)).2.2.2.2.2.2.2.1 hj (fun q hq => ha.2.2.2 j q hq)]
        show cal (some (nI (flt (a.2.2.2.2.2.2 j) _ y (nI 1)), _)) _ = _
        rw [hs]
        show cal (some (nI 1, _)) _ = _
        rw [cal_s, if_neg (by decide), meet_at, cal_s]
      · show f_X7_put N S (nI j) y z = _
        rw [f_X7_put, bnd_e, isSheet_ok N _ hj, cal_s, if_neg (by decide), if_pos hin, n_cl (by omega), if_pos (((hM.flt (nI 0)).2.2.2.2.2.2.2.1 j hj).1 hs), fails_at, cal_s]
    | some w =>
      obtain ⟨w1, w2⟩ := ha.2.2.2 j w hs
      have hflt : flt (some w) (nI w.1) y (nI 1) = if fit w.2.1 y (nI 1) then 0 else 3 := by
        show (if nI w.1 = nI w.1 then (if nI 1 < 0 then 4 else if fit w.2.1 y (nI 1) then 0 else 3) else 2) = _
        rw [if_pos rfl, if_neg (by decide)]
      by_cases hft : fit w.2.1 y (nI 1) = true
      · obtain ⟨i, hi, rfl⟩ := fit_1 hft
        rw [hft, if_pos rfl] at hflt
        have hyy : ∀ q, (some (w.1, w.2.1, upd w.2.2 i (cutv w.1 z)) : Option (Nat × Nat × (Nat → Int32))) = some q → q.1 ≤ 2 ∧ q.2.1 ≤ 60 := fun q hq => by cases hq; exact ⟨w1, w2⟩
        have hupd : ∀ k, upd w.2.2 i (cutv w.1 z) k = if k = i then cutv w.1 z else w.2.2 k := fun _ => rfl
        refine ⟨nI 1, (a.1, a.2.1, a.2.2.1, a.2.2.2.1, nI 0, a.2.2.2.2.2.1, up1 a.2.2.2.2.2.2 j (some (w.1, w.2.1, upd w.2.2 i (cutv w.1 z)))), fun S hC => ?_, fun S hM => ?_⟩
        · obtain ⟨e1, e2, e3⟩ := ((hC.flt (nI 0)).2.2.2.2.2.2.2.1 j hj).2 w hs
          have g3 : ∀ k, k < 60 → st (st S 0 10 (nI 0)) (16 + j) i (cutv w.1 z) (16 + j) k = upd w.2.2 i (cutv w.1 z) k := fun k hk => by
            rw [hupd]
            by_cases c : k = i
            · rw [if_pos c, c, st_s]
            · rw [if_neg c, st_n c, e3 k hk]
          have g1 : st (st S 0 10 (nI 0)) (16 + j) i (cutv w.1 z) (12 + j) 0 = nI w.1 := by rw [st_ne (by omega)]; exact e1
          have g2 : st (st S 0 10 (nI 0)) (16 + j) i (cutv w.1 z) (12 + j) 1 = nI w.2.1 := by rw [st_ne (by omega)]; exact e2
          refine ⟨st (st S 0 10 (nI 0)) (16 + j) i (cutv w.1 z), ?_, (hC.flt (nI 0)).sheet (S' := st (st S 0 10 (nI 0)) (16 + j) i (cutv w.1 z)) hj (fun k _ _ k2 => st_ne k2) hyy ⟨fun q => by (cases q), fun q hq => by cases hq; exact ⟨g1, g2, g3⟩⟩, (frC.st (by decide) S _ _).tr (frC.st (by omega) _ _ _)⟩
          show f_X6_put N S (nI j) (nI i) z = _
          rw [f_X6_put, bnd_e, sheetOf_ok N _ hj, cal_s, opt_1, if_pos hj, faultOf_ok N (hC.flt (nI 0)).2.2.2.2.2.2.2.1 hj (fun q hq => ha.2.2.2 j q hq), e1]
          show cal (some (nI (flt (a.2.2.2.2.2.2 j) _ (nI i) (nI 1)), _)) _ = _
          rw [hs, hflt, cal_s, if_pos (by rfl), cut_ok N e1 w1, cal_s, if_pos ((inb_i (by omega)).mpr (by omega)), bnd_e, n_cl (by omega)]
        · obtain ⟨e1, e2, e3⟩ := ((hM.flt (nI 0)).2.2.2.2.2.2.2.1 j hj).2 w hs
          have g3 : ∀ k, k < 60 → st (st S 32 0 (nI 0)) 35 (60 * j + i) (cutv w.1 z) 35 (60 * j + k) = upd w.2.2 i (cutv w.1 z) k := fun k hk => by
            rw [hupd]
            by_cases c : k = i
            · rw [if_pos c, c, st_s]
            · rw [if_neg c, st_n (by omega), e3 k hk]
          have g1 : st (st S 32 0 (nI 0)) 35 (60 * j + i) (cutv w.1 z) 33 j = nI w.1 := by rw [st_ne (by decide)]; exact e1
          have g2 : st (st S 32 0 (nI 0)) 35 (60 * j + i) (cutv w.1 z) 34 j = nI w.2.1 := by rw [st_ne (by decide)]; exact e2
          refine ⟨st (st S 32 0 (nI 0)) 35 (60 * j + i) (cutv w.1 z), ?_, (hM.flt (nI 0)).sheet (S' := st (st S 32 0 (nI 0)) 35 (60 * j + i) (cutv w.1 z)) (fun k _ _ _ k3 => st_ne k3) (fun k hk kj => ⟨by rw [st_ne (by decide)], by rw [st_ne (by decide)], fun q hq => by rw [st_n (by omega)]⟩) hyy ⟨fun q => by (cases q), fun q hq => by cases hq; exact ⟨g1, g2, g3⟩⟩, (frM.st (by decide) S _ _).tr (frM.st (by decide) _ _ _)⟩
          show f_X7_put N S (nI j) (nI i) z = _
          have hin2 : inb (nI (60 * j + i)) 240 = true := (inb_i (by omega)).mpr (by omega)
          rw [f_X7_put, bnd_e, isSheet_ok N _ hj, cal_s, if_neg (by decide), if_pos hin, n_cl (by omega), e1, if_neg (neg_ne (by omega)).2, if_pos hin, e2, within_len N _ w2, hft, cal_s, if_neg (by decide), if_pos hin, if_pos hin, n_mul, n_add, if_pos hin2, if_pos hin2, if_pos hin2, bnd_e, bnd_e, bnd_e, n_cl (by omega), e1]
          unfold cutv
          by_cases c0 : w.1 = 0
          · rw [if_pos (by rw [c0]; rfl), if_pos c0]
          · rw [if_neg (by rw [z_eq (by omega)]; exact c0), if_neg c0]
            by_cases c1 : w.1 = 1
            · rw [if_pos (by rw [c1]), if_pos c1]
            · rw [if_neg (by rw [n_eq (by omega) (by omega)]; exact c1), if_neg c1]
      · have hff := ts_nt' hft
        rw [hff] at hflt
        refine ⟨(-10 : Int32) - nI 3, A5 a (nI 3), fun S hC => ⟨st (st S 0 10 (nI 0)) 0 10 (nI 3), ?_, (hC.flt _).flt _, (frC.st (by decide) S _ _).tr (frC.st (by decide) _ _ _)⟩, fun S hM => ⟨st (st S 32 0 (nI 0)) 32 0 (nI 3), ?_, (hM.flt _).flt _, (frM.st (by decide) S _ _).tr (frM.st (by decide) _ _ _)⟩⟩
        · show f_X6_put N S (nI j) y z = _
          obtain ⟨e1, e2, e3⟩ := ((hC.flt (nI 0)).2.2.2.2.2.2.2.1 j hj).2 w hs
          rw [f_X6_put, bnd_e, sheetOf_ok N _ hj, cal_s, opt_1, if_pos hj, faultOf_ok N (hC.flt (nI 0)).2.2.2.2.2.2.2.1 hj (fun q hq => ha.2.2.2 j q hq), e1]
          show cal (some (nI (flt (a.2.2.2.2.2.2 j) _ y (nI 1)), _)) _ = _
          rw [hs, hflt]
          show cal (some (nI 3, _)) _ = _
          rw [cal_s, if_neg (by decide), meet_at, cal_s]
        · show f_X7_put N S (nI j) y z = _
          obtain ⟨e1, e2, e3⟩ := ((hM.flt (nI 0)).2.2.2.2.2.2.2.1 j hj).2 w hs
          rw [f_X7_put, bnd_e, isSheet_ok N _ hj, cal_s, if_neg (by decide), if_pos hin, n_cl (by omega), e1, if_neg (neg_ne (by omega)).2, if_pos hin, e2, within_len N _ w2, hff, cal_s, if_pos (by rfl), fails_at, cal_s]
theorem b_cell (N : Nat) (x y z : Int32) : Both (fun S => f_X6_cell N S x y z) (fun S => f_X7_cell N S x y z) := by
  refine Both.of fun a ha => ?_
  rcases is_sh x with hx | ⟨j, hj, rfl⟩
  · refine ⟨(-9223372036854775808 : Int64), A5 a (nI 0), fun S hC => ⟨st S 0 10 (nI 0), ?_, hC.flt _, frC.st (by decide) S _ _⟩, fun S hM => ⟨st S 32 0 (nI 0), ?_, hM.flt _, frM.st (by decide) S _ _⟩⟩
    · show f_X6_cell N S x y z = _
      rw [f_X6_cell, bnd_e, sheetOf_no N _ hx, cal_s, opt_0]
    · show f_X7_cell N S x y z = _
      rw [f_X7_cell, bnd_e, isSheet_no N _ hx, cal_s, if_pos (by rfl)]
  · have hin : inb (nI j) 4 = true := (inb_i (by omega)).mpr hj
    rcases is_ln z with hz | ⟨t, ht, rfl⟩
    · refine ⟨(-9223372036854775808 : Int64), A5 a (nI 0), fun S hC => ⟨st S 0 10 (nI 0), ?_, hC.flt _, frC.st (by decide) S _ _⟩, fun S hM => ⟨st S 32 0 (nI 0), ?_, hM.flt _, frM.st (by decide) S _ _⟩⟩
      · show f_X6_cell N S (nI j) y z = _
        rw [f_X6_cell, bnd_e, sheetOf_ok N _ hj, cal_s, opt_1, if_pos hj, (isLane_no N _ hz).1, cal_s, if_pos (by rfl)]
      · show f_X7_cell N S (nI j) y z = _
        rw [f_X7_cell, bnd_e, isSheet_ok N _ hj, cal_s, if_neg (by decide), (isLane_no N _ hz).2, cal_s, if_pos (by rfl)]
    · -- the fault that both meet
      have hCg : ∀ S, RC S a → ∀ v, flt (a.2.2.2.2.2.2 j) (nI t) y (nI 1) = v → f_X6_cell N S (nI j) y (nI t) = if nI v = 0 then (if inb y 60 = true then some ((S (16 + j) y.toNatClampNeg).toInt64, st (st S 0 10 (nI 0)) 0 10 (nI v)) else none) else some ((-9223372036854775808 : Int64), st (st S 0 10 (nI 0)) 0 10 (nI v)) := fun S hC v hv => by
        rw [f_X6_cell, bnd_e, sheetOf_ok N _ hj, cal_s, opt_1, if_pos hj, (isLane_ok N _ ht).1, cal_s, if_neg (by decide), faultOf_ok N (hC.flt (nI 0)).2.2.2.2.2.2.2.1 hj (fun q hq => ha.2.2.2 j q hq)]
        show cal (some (nI (flt (a.2.2.2.2.2.2 j) _ y (nI 1)), _)) _ = _
        rw [hv, cal_s, bnd_e, st_s, st_ne (by omega), st_ne (by omega)]
      cases hs : a.2.2.2.2.2.2 j with
      | none =>
        refine ⟨(-9223372036854775808 : Int64), A5 a (nI 1), fun S hC => ⟨st (st S 0 10 (nI 0)) 0 10 (nI 1), ?_, (hC.flt _).flt _, (frC.st (by decide) S _ _).tr (frC.st (by decide) _ _ _)⟩, fun S hM => ⟨st (st S 32 0 (nI 0)) 32 0 (nI 1), ?_, (hM.flt _).flt _, (frM.st (by decide) S _ _).tr (frM.st (by decide) _ _ _)⟩⟩
        · show f_X6_cell N S (nI j) y (nI t) = _
          rw [hCg S hC 1 (by rw [hs]; rfl), if_neg (by decide)]
        · show f_X7_cell N S (nI j) y (nI t) = _
          have e1 := ((hM.flt (nI 0)).2.2.2.2.2.2.2.1 j hj).1 hs
          rw [f_X7_cell, bnd_e, isSheet_ok N _ hj, cal_s, if_neg (by decide), (isLane_ok N _ ht).2, cal_s, if_neg (by decide), if_pos hin, n_cl (by omega), if_pos e1, f_X7_cell_50, if_pos hin, n_cl (by omega), if_pos e1, lost_at, cal_s]
      | some w =>
        obtain ⟨w1, w2⟩ := ha.2.2.2 j w hs
        by_cases hl : w.1 = t
        · have hflt : flt (some w) (nI t) y (nI 1) = if fit w.2.1 y (nI 1) then 0 else 3 := by
            show (if nI w.1 = nI t then (if nI 1 < 0 then 4 else if fit w.2.1 y (nI 1) then 0 else 3) else 2) = _
            rw [if_pos (by rw [hl]), if_neg (by decide)]
          have hMg : ∀ S, RM S a → f_X7_cell N S (nI j) y (nI t) = f_X7_cell_50 N (st S 32 0 (nI 0)) (nI j) y ∧ (st S 32 0 (nI 0)) 33 j = nI w.1 ∧ (st S 32 0 (nI 0)) 34 j = nI w.2.1 ∧ ∀ i, i < 60 → (st S 32 0 (nI 0)) 35 (60 * j + i) = w.2.2 i := fun S hM => by
            obtain ⟨e1, e2, e3⟩ := ((hM.flt (nI 0)).2.2.2.2.2.2.2.1 j hj).2 w hs
            refine ⟨?_, e1, e2, e3⟩
            rw [f_X7_cell, bnd_e, isSheet_ok N _ hj, cal_s, if_neg (by decide), (isLane_ok N _ ht).2, cal_s, if_neg (by decide), if_pos hin, n_cl (by omega), e1, if_neg (neg_ne (by omega)).2, if_pos hin, if_pos (by rw [hl])]
          by_cases hft : fit w.2.1 y (nI 1) = true
          · obtain ⟨i, hi, rfl⟩ := fit_1 hft
            rw [hft, if_pos rfl] at hflt
            refine ⟨(w.2.2 i).toInt64, A5 a (nI 0), fun S hC => ⟨st (st S 0 10 (nI 0)) 0 10 (nI 0), ?_, (hC.flt _).flt _, (frC.st (by decide) S _ _).tr (frC.st (by decide) _ _ _)⟩, fun S hM => ⟨st S 32 0 (nI 0), ?_, hM.flt _, frM.st (by decide) S _ _⟩⟩
            · show f_X6_cell N S (nI j) (nI i) (nI t) = _
              rw [hCg S hC 0 (by rw [hs]; exact hflt), if_pos (by rfl), if_pos ((inb_i (by omega)).mpr (by omega)), n_cl (by omega), ((hC.2.2.2.2.2.2.2.1 j hj).2 w hs).2.2 i (by omega)]
            · show f_X7_cell N S (nI j) (nI i) (nI t) = _
              obtain ⟨g0, e1, e2, e3⟩ := hMg S hM
              rw [g0, f_X7_cell_50, if_pos hin, n_cl (by omega), e1, if_neg (neg_ne (by omega)).2, if_pos hin, e2, within_len N _ w2, hft, cal_s, if_neg (by decide), n_mul, n_add, if_pos ((inb_i (by omega)).mpr (by omega)), n_cl (by omega), e3 i (by omega)]
          · have hff := ts_nt' hft
            rw [hff] at hflt
            refine ⟨(-9223372036854775808 : Int64), A5 a (nI 3), fun S hC => ⟨st (st S 0 10 (nI 0)) 0 10 (nI 3), ?_, (hC.flt _).flt _, (frC.st (by decide) S _ _).tr (frC.st (by decide) _ _ _)⟩, fun S hM => ⟨st (st S 32 0 (nI 0)) 32 0 (nI 3), ?_, (hM.flt _).flt _, (frM.st (by decide) S _ _).tr (frM.st (by decide) _ _ _)⟩⟩
            · show f_X6_cell N S (nI j) y (nI t) = _
              rw [hCg S hC 3 (by rw [hs]; exact hflt), if_neg (by decide)]
            · show f_X7_cell N S (nI j) y (nI t) = _
              obtain ⟨g0, e1, e2, e3⟩ := hMg S hM
              rw [g0, f_X7_cell_50, if_pos hin, n_cl (by omega), e1, if_neg (neg_ne (by omega)).2, if_pos hin, e2, within_len N _ w2, hff, cal_s, if_pos (by rfl), lost_at, cal_s]
        · have hne : ¬ nI w.1 = nI t := by rw [n_eq (by omega) (by omega)]; exact hl
          refine ⟨(-9223372036854775808 : Int64), A5 a (nI 2), fun S hC => ⟨st (st S 0 10 (nI 0)) 0 10 (nI 2), ?_, (hC.flt _).flt _, (frC.st (by decide) S _ _).tr (frC.st (by decide) _ _ _)⟩, fun S hM => ⟨st (st S 32 0 (nI 0)) 32 0 (nI 2), ?_, (hM.flt _).flt _, (frM.st (by decide) S _ _).tr (frM.st (by decide) _ _ _)⟩⟩
          · show f_X6_cell N S (nI j) y (nI t) = _
            rw [hCg S hC 2 (by rw [hs]; show (if nI w.1 = nI t then _ else 2) = 2; rw [if_neg hne]), if_neg (by decide)]
          · show f_X7_cell N S (nI j) y (nI t) = _
            obtain ⟨e1, e2, e3⟩ := ((hM.flt (nI 0)).2.2.2.2.2.2.2.1 j hj).2 w hs
            rw [f_X7_cell, bnd_e, isSheet_ok N _ hj, cal_s, if_neg (by decide), (isLane_ok N _ ht).2, cal_s, if_neg (by decide), if_pos hin, n_cl (by omega), e1, if_neg (neg_ne (by omega)).2, if_pos hin, if_neg hne, lost_at, cal_s]
