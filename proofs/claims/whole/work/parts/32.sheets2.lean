/-! sheet, lose, put, cell -/
theorem meet_at (N : Nat) (S : St) (x : Int32) : f_X6_meet N S x = some ((-10 : Int32) - x, st S 0 10 x) := by rw [f_X6_meet, bnd_e]
theorem fails_at (N : Nat) (S : St) (x : Int32) : f_X7_fails N S x = some ((-10 : Int32) - x, st S 32 0 x) := by rw [f_X7_fails, bnd_e]
theorem lost_at (N : Nat) (S : St) (x : Int32) : f_X7_lost N S x = some ((-9223372036854775808 : Int64), st S 32 0 x) := by rw [f_X7_lost, bnd_e]
theorem clr_loop (N : Nat) {j : Nat} (hj : j < 4) : ∀ (d i f : Nat) (S : St), i + d = 60 → d < f → ∃ S', f_X7_sheet_57 N f S (nI j) (nI i) = some (nI 1, S') ∧ (∀ k, k ≠ 35 → S' k = S k) ∧ ∀ x, S' 35 x = if 60 * j + i ≤ x ∧ x < 60 * j + 60 then nI 0 else S 35 x := by
  intro d
  induction d with
  | zero =>
    intro i f S hi hf
    obtain ⟨g, rfl⟩ : ∃ g, f = g + 1 := ⟨f - 1, by omega⟩
    rw [f_X7_sheet_57, if_pos (nI_le (by omega) (by omega))]
    exact ⟨S, rfl, fun _ _ => rfl, fun x => by rw [if_neg (by omega)]⟩
  | succ d ih =>
    intro i f S hi hf
    obtain ⟨g, rfl⟩ : ∃ g, f = g + 1 := ⟨f - 1, by omega⟩
    rw [f_X7_sheet_57, if_neg (nI_ge (by omega) (by omega)), n_mul, n_add, if_pos ((inb_i (by omega)).mpr (by omega)), bnd_e, bnd_e, n_cl (by omega), n_add]
    obtain ⟨S', a1, a2, a3⟩ := ih (i + 1) g (st S 35 (60 * j + i) (nI 0)) (by omega) (by omega)
    refine ⟨S', a1, fun k hk => (a2 k hk).trans (st_ne hk), fun x => ?_⟩
    rw [a3 x]
    by_cases c1 : x = 60 * j + i
    · rw [if_neg (by omega), if_pos (by omega), c1, st_s]
    · by_cases c2 : 60 * j + (i + 1) ≤ x ∧ x < 60 * j + 60
      · rw [if_pos c2, if_pos (by omega)]
      · rw [if_neg c2, if_neg (by omega), st_n c1]
abbrev A5 (a : Ab) (v : Int32) : Ab := (a.1, a.2.1, a.2.2.1, a.2.2.2.1, v, a.2.2.2.2.2)
theorem b_sheet {N : Nat} (hN : 61 ≤ N) (x y z : Int32) : Both (fun S => f_X6_sheet N S x y z) (fun S => f_X7_sheet N S x y z) := by
  refine Both.of fun a ha => ?_
  rcases is_sh x with hx | ⟨j, hj, rfl⟩
  · refine ⟨-1, A5 a (nI 0), fun S hC => ⟨st S 0 10 (nI 0), ?_, hC.flt _, frC.st (by decide) S _ _⟩, fun S hM => ⟨st S 32 0 (nI 0), ?_, hM.flt _, frM.st (by decide) S _ _⟩⟩
    · show f_X6_sheet N S x y z = _
      rw [f_X6_sheet, bnd_e, sheetOf_no N _ hx, cal_s, opt_0]
    · show f_X7_sheet N S x y z = _
      rw [f_X7_sheet, bnd_e, isSheet_no N _ hx, cal_s, if_pos (by rfl)]
  · have hin : inb (nI j) 4 = true := (inb_i (by omega)).mpr hj
    rcases is_ln y with hy | ⟨t, ht, rfl⟩
    · refine ⟨-2, A5 a (nI 0), fun S hC => ⟨st S 0 10 (nI 0), ?_, hC.flt _, frC.st (by decide) S _ _⟩, fun S hM => ⟨st S 32 0 (nI 0), ?_, hM.flt _, frM.st (by decide) S _ _⟩⟩
      · show f_X6_sheet N S (nI j) y z = _
        rw [f_X6_sheet, bnd_e, sheetOf_ok N _ hj, cal_s, opt_1, if_pos hj, (isLane_no N _ hy).1, cal_s, if_pos (by rfl)]
      · show f_X7_sheet N S (nI j) y z = _
        rw [f_X7_sheet, bnd_e, isSheet_ok N _ hj, cal_s, if_neg (by decide), (isLane_no N _ hy).2, cal_s, if_pos (by rfl)]
    · by_cases hz : nI 60 < z
      · refine ⟨-2, A5 a (nI 0), fun S hC => ⟨st S 0 10 (nI 0), ?_, hC.flt _, frC.st (by decide) S _ _⟩, fun S hM => ⟨st S 32 0 (nI 0), ?_, hM.flt _, frM.st (by decide) S _ _⟩⟩
        · show f_X6_sheet N S (nI j) (nI t) z = _
          rw [f_X6_sheet, bnd_e, sheetOf_ok N _ hj, cal_s, opt_1, if_pos hj, (isLane_ok N _ ht).1, cal_s, if_neg (by decide), if_neg (i_lt_nle hz)]
        · show f_X7_sheet N S (nI j) (nI t) z = _
          rw [f_X7_sheet, bnd_e, isSheet_ok N _ hj, cal_s, if_neg (by decide), (isLane_ok N _ ht).2, cal_s, if_neg (by decide), if_neg (i_lt_nle hz)]
      · by_cases hz0 : z < 0
        · refine ⟨(-10 : Int32) - nI 4, A5 a (nI 4), fun S hC => ⟨st (st S 0 10 (nI 0)) 0 10 (nI 4), ?_, (hC.flt _).flt _, (frC.st (by decide) S _ _).tr (frC.st (by decide) _ _ _)⟩, fun S hM => ⟨st (st S 32 0 (nI 0)) 32 0 (nI 4), ?_, (hM.flt _).flt _, (frM.st (by decide) S _ _).tr (frM.st (by decide) _ _ _)⟩⟩
          · show f_X6_sheet N S (nI j) (nI t) z = _
            rw [f_X6_sheet, bnd_e, sheetOf_ok N _ hj, cal_s, opt_1, if_pos hj, (isLane_ok N _ ht).1, cal_s, if_neg (by decide), if_pos (i_nlt hz), if_neg (i_lt_nle hz0), meet_at, cal_s]
          · show f_X7_sheet N S (nI j) (nI t) z = _
            rw [f_X7_sheet, bnd_e, isSheet_ok N _ hj, cal_s, if_neg (by decide), (isLane_ok N _ ht).2, cal_s, if_neg (by decide), if_pos (i_nlt hz), if_neg (i_lt_nle hz0), fails_at, cal_s]
        · obtain ⟨n, -, n2, rfl⟩ := rng (lo := 0) (hi := 60) (by decide) (by decide) (fun w => hz0 w) hz
          have hyy : ∀ q, (some (t, n, fun _ => nI 0) : Option (Nat × Nat × (Nat → Int32))) = some q → q.1 ≤ 2 ∧ q.2.1 ≤ 60 := fun q hq => by cases hq; exact ⟨ht, n2⟩
          refine ⟨nI 1, (a.1, a.2.1, a.2.2.1, a.2.2.2.1, nI 0, a.2.2.2.2.2.1, up1 a.2.2.2.2.2.2 j (some (t, n, fun _ => nI 0))), fun S hC => ?_, fun S hM => ?_⟩
          · obtain ⟨S', a1, a2, a3, a4, a5⟩ := renew_ok (N := N) (by omega) (st S 0 10 (nI 0)) j hj (nI t) (nI n)
            refine ⟨S', ?_, (hC.flt (nI 0)).sheet hj (fun k _ k1 k2 => a2 k k1 k2) hyy ⟨fun q => by (cases q), fun q hq => by cases hq; exact ⟨a3, a4, a5⟩⟩, (frC.st (by decide) S _ _).tr (fun k hk => a2 k (by omega) (by omega))⟩
            show f_X6_sheet N S (nI j) (nI t) (nI n) = _
            rw [f_X6_sheet, bnd_e, sheetOf_ok N _ hj, cal_s, opt_1, if_pos hj, (isLane_ok N _ ht).1, cal_s, if_neg (by decide), if_pos (nI_le n2 (by omega)), if_pos (nI_pos' (by omega)), a1, cal_s]
          · obtain ⟨S', a1, a2, a3⟩ := clr_loop N hj 60 0 N (st (st (st S 32 0 (nI 0)) 33 j (nI t)) 34 j (nI n)) (by omega) (by omega)
            have e33 : S' 33 j = nI t := by rw [a2 33 (by decide), st_ne (by decide), st_s]
            have e34 : S' 34 j = nI n := by rw [a2 34 (by decide), st_s]
            have e35 : ∀ i, i < 60 → S' 35 (60 * j + i) = nI 0 := fun i hi => by rw [a3, if_pos (by omega)]
            refine ⟨S', ?_, (hM.flt (nI 0)).sheet (fun k _ k1 k2 k3 => by rw [a2 k k3, st_ne k2, st_ne k1]) (fun k hk kj => ⟨?_, ?_, fun i hi => ?_⟩) hyy ⟨fun q => by (cases q), fun q hq => by cases hq; exact ⟨e33, e34, e35⟩⟩, ?_⟩
            · show f_X7_sheet N S (nI j) (nI t) (nI n) = _
              rw [f_X7_sheet, bnd_e, isSheet_ok N _ hj, cal_s, if_neg (by decide), (isLane_ok N _ ht).2, cal_s, if_neg (by decide), if_pos (nI_le n2 (by omega)), if_pos (nI_pos' (by omega)), if_pos hin, bnd_e, if_pos hin, bnd_e, bnd_e, n_cl (by omega), a1]
            · rw [a2 33 (by decide), st_ne (by decide), st_n kj]
            · rw [a2 34 (by decide), st_n kj, st_ne (by decide)]
            · rw [a3, if_neg (by omega), st_ne (by decide), st_ne (by decide)]
            · intro k hk
              rw [a2 k (by omega), st_ne (by omega), st_ne (by omega), st_ne (by omega)]
theorem b_lose {N : Nat} (hN : 61 ≤ N) (x : Int32) : Both (fun S => f_X6_lose N S x) (fun S => f_X7_lose N S x) := by
  refine Both.of fun a ha => ?_
  rcases is_sh x with hx | ⟨j, hj, rfl⟩
  · refine ⟨-1, a, fun S hC => ⟨S, ?_, hC, frC.rf S⟩, fun S hM => ⟨S, ?_, hM, frM.rf S⟩⟩
    · show f_X6_lose N S x = _
      rw [f_X6_lose, sheetOf_no N _ hx, cal_s, opt_0]
    · show f_X7_lose N S x = _
      rw [f_X7_lose, isSheet_no N _ hx, cal_s, if_pos (by rfl)]
  · have hin : inb (nI j) 4 = true := (inb_i (by omega)).mpr hj
    have hyy : ∀ q, (none : Option (Nat × Nat × (Nat → Int32))) = some q → q.1 ≤ 2 ∧ q.2.1 ≤ 60 := fun q hq => by cases hq
    have hC0 : ∀ S, RC S a → ∃ S', (∀ v, f_X6_lose_25 N S j v = some (v, S')) ∧ RC S' (a.1, a.2.1, a.2.2.1, a.2.2.2.1, a.2.2.2.2.1, a.2.2.2.2.2.1, up1 a.2.2.2.2.2.2 j none) ∧ frC S S' := fun S hC => by
      obtain ⟨S', a1, a2, a3, a4, a5⟩ := renew_ok (N := N) (by omega) S j hj (-1) (nI 0)
      exact ⟨S', fun v => by rw [f_X6_lose_25, a1, cal_s], hC.sheet hj (fun k _ k1 k2 => a2 k k1 k2) hyy ⟨fun _ => a3, fun q hq => by cases hq⟩, fun k hk => a2 k (by omega) (by omega)⟩
    have hM0 : ∀ S, RM S a → (∀ v, f_X7_lose_25 N S (nI j) v = some (v, st S 33 j (-9))) ∧ RM (st S 33 j (-9)) (a.1, a.2.1, a.2.2.1, a.2.2.2.1, a.2.2.2.2.1, a.2.2.2.2.2.1, up1 a.2.2.2.2.2.2 j none) := fun S hM =>
      ⟨fun v => by rw [f_X7_lose_25, if_pos hin, bnd_e, n_cl (by omega)], hM.sheet (fun k _ k1 _ _ => st_ne k1) (fun k hk kj => ⟨st_n kj, by rw [st_ne (by decide)], fun i hi => by rw [st_ne (by decide)]⟩) hyy ⟨fun _ => st_s, fun q hq => by cases hq⟩⟩
    cases hs : a.2.2.2.2.2.2 j with
    | none =>
      refine ⟨nI 0, (a.1, a.2.1, a.2.2.1, a.2.2.2.1, a.2.2.2.2.1, a.2.2.2.2.2.1, up1 a.2.2.2.2.2.2 j none), fun S hC => ?_, fun S hM => ?_⟩
      · obtain ⟨S', b1, b2, b3⟩ := hC0 S hC
        refine ⟨S', ?_, b2, b3⟩
        show f_X6_lose N S (nI j) = _
        rw [f_X6_lose, sheetOf_ok N _ hj, cal_s, opt_1, if_pos hj, if_pos ((hC.2.2.2.2.2.2.2.1 j hj).1 hs), b1]
      · obtain ⟨b1, b2⟩ := hM0 S hM
        refine ⟨_, ?_, b2, frM.st (by decide) S _ _⟩
        show f_X7_lose N S (nI j) = _
        rw [f_X7_lose, isSheet_ok N _ hj, cal_s, if_neg (by decide), if_pos hin, n_cl (by omega), if_pos ((hM.2.2.2.2.2.2.2.1 j hj).1 hs), b1]
    | some y =>
      have hy2 := ha.2.2.2 j y hs
      refine ⟨nI 1, (a.1, a.2.1, a.2.2.1, a.2.2.2.1, a.2.2.2.2.1, a.2.2.2.2.2.1, up1 a.2.2.2.2.2.2 j none), fun S hC => ?_, fun S hM => ?_⟩
      · obtain ⟨S', b1, b2, b3⟩ := hC0 S hC
        refine ⟨S', ?_, b2, b3⟩
        show f_X6_lose N S (nI j) = _
        rw [f_X6_lose, sheetOf_ok N _ hj, cal_s, opt_1, if_pos hj, ((hC.2.2.2.2.2.2.2.1 j hj).2 y hs).1, if_neg (neg_ne (by omega)).1, b1]
      · obtain ⟨b1, b2⟩ := hM0 S hM
        refine ⟨_, ?_, b2, frM.st (by decide) S _ _⟩
        show f_X7_lose N S (nI j) = _
        rw [f_X7_lose, isSheet_ok N _ hj, cal_s, if_neg (by decide), if_pos hin, n_cl (by omega), ((hM.2.2.2.2.2.2.2.1 j hj).2 y hs).1, if_neg (neg_ne (by omega)).2, b1]
