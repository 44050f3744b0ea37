/-! MORE CALLS: key, reading, back, tell, click, as -/
theorem RC.flt {S : St} {a : Ab} (h : RC S a) (v : Int32) : RC (st S 0 10 v) (a.1, a.2.1, a.2.2.1, a.2.2.2.1, v, a.2.2.2.2.2.1, a.2.2.2.2.2.2) := h.re (fun k _ hk => st_ne hk) (st_n (by decide)) h.1.2.1 ((st_n (by decide)).trans h.2.2.1) ((st_n (by decide)).trans h.2.2.2.1) ((st_n (by decide)).trans h.2.2.2.2.1) st_s
theorem RC.trc {S : St} {a : Ab} (h : RC S a) (v : Int32) : RC (st S 0 9 v) (a.1, a.2.1, a.2.2.1, v, a.2.2.2.2.1, a.2.2.2.2.2.1, a.2.2.2.2.2.2) := h.re (fun k _ hk => st_ne hk) (st_n (by decide)) h.1.2.1 ((st_n (by decide)).trans h.2.2.1) ((st_n (by decide)).trans h.2.2.2.1) st_s ((st_n (by decide)).trans h.2.2.2.2.2.1)
theorem RM.flt {S : St} {a : Ab} (h : RM S a) (v : Int32) : RM (st S 32 0 v) (a.1, a.2.1, a.2.2.1, a.2.2.2.1, v, a.2.2.2.2.2.1, a.2.2.2.2.2.2) := h.re (fun k hk => st_ne (by omega)) ⟨st_n (by decide), st_n (by decide), st_n (by decide), st_n (by decide)⟩ h.1.2.1 ((st_n (by decide)).trans h.2.2.1) ((st_n (by decide)).trans h.2.2.2.1) ((st_n (by decide)).trans h.2.2.2.2.1) st_s
theorem RM.trc {S : St} {a : Ab} (h : RM S a) (v : Int32) : RM (st S 32 1 v) (a.1, a.2.1, a.2.2.1, v, a.2.2.2.2.1, a.2.2.2.2.2.1, a.2.2.2.2.2.2) := h.re (fun k hk => st_ne (by omega)) ⟨st_n (by decide), st_n (by decide), st_n (by decide), st_n (by decide)⟩ h.1.2.1 ((st_n (by decide)).trans h.2.2.1) ((st_n (by decide)).trans h.2.2.2.1) st_s ((st_n (by decide)).trans h.2.2.2.2.2.1)
theorem RC.rd {S S' : St} {a : Ab} (h : RC S a) (hf : ∀ k, k < 32 → k ≠ 0 → k ≠ 10 → k ≠ 11 → S' k = S k) (h0 : ∀ j, j ≠ 6 → S' 0 j = S 0 j) {rd : List (Nat × Nat)} (ho : rd.length ≤ 8 ∧ ∀ q ∈ rd, q.1 < a.1.length ∧ q.2 ≤ 5) (hr : RdC S' rd) : RC S' (a.1, a.2.1, a.2.2.1, a.2.2.2.1, a.2.2.2.2.1, rd, a.2.2.2.2.2.2) := by
  obtain ⟨k0, k1, k2, k3, k4, k5, k6, k7, k8⟩ := h
  refine ⟨⟨k0.1, k0.2.1, ho, k0.2.2.2⟩, k1.eq (hf 1 (by decide) (by decide) (by decide) (by decide)) (hf 3 (by decide) (by decide) (by decide) (by decide)) (fun i hi => ⟨hf _ (by omega) (by omega) (by omega) (by omega), hf _ (by omega) (by omega) (by omega) (by omega)⟩), (h0 7 (by decide)).trans k2, (h0 8 (by decide)).trans k3, (h0 9 (by decide)).trans k4, (h0 10 (by decide)).trans k5, hr, fun j hj => ?_, ?_⟩
  · rw [hf (12 + j) (by omega) (by omega) (by omega) (by omega), hf (16 + j) (by omega) (by omega) (by omega) (by omega)]
    exact k7 j hj
  · rw [hf 4 (by decide) (by decide) (by decide) (by decide)]
    exact k8
theorem RM.rd {S S' : St} {a : Ab} (h : RM S a) (hf : ∀ k, k ≠ 32 → k ≠ 52 → k ≠ 53 → S' k = S k) (h0 : ∀ j, j ≠ 32 → S' 32 j = S 32 j) {rd : List (Nat × Nat)} (ho : rd.length ≤ 8 ∧ ∀ q ∈ rd, q.1 < a.1.length ∧ q.2 ≤ 5) (hr : RdM S' rd) : RM S' (a.1, a.2.1, a.2.2.1, a.2.2.2.1, a.2.2.2.2.1, rd, a.2.2.2.2.2.2) := by
  obtain ⟨k0, k1, k2, k3, k4, k5, k6, k7, k8⟩ := h
  refine ⟨⟨k0.1, k0.2.1, ho, k0.2.2.2⟩, ⟨(h0 5 (by decide)).trans k1.1, fun i m hm => ?_⟩, (h0 7 (by decide)).trans k2, (h0 6 (by decide)).trans k3, (h0 1 (by decide)).trans k4, (h0 0 (by decide)).trans k5, hr, fun j hj => ?_, ?_⟩
  · rw [hf 36 (by decide) (by decide) (by decide), hf 37 (by decide) (by decide) (by decide), hf 38 (by decide) (by decide) (by decide), hf 39 (by decide) (by decide) (by decide)]
    exact k1.2 i m hm
  · rw [hf 33 (by decide) (by decide) (by decide), hf 34 (by decide) (by decide) (by decide), hf 35 (by decide) (by decide) (by decide)]
    exact k7 j hj
  · unfold Mks mkP mkM
    rw [h0 27 (by decide), h0 28 (by decide), hf 49 (by decide) (by decide) (by decide)]
    exact k8
theorem b_key (N : Nat) (x y : Int32) : Both (fun S => f_X6_key N S x y) (fun S => f_X7_key N S x y) := by
  refine Both.of fun a ha => ?_
  rcases is_mac a.1 ha.1 x with hx | ⟨i, m, rfl, hm⟩
  · refine ⟨-1, a, fun S hC => ⟨S, ?_, hC, frC.rf S⟩, fun S hM => ⟨S, ?_, hM, frM.rf S⟩⟩
    · show f_X6_key N S x y = _
      rw [f_X6_key, macroOf_no N hC.2.1 x hx, cal_s, opt_0]
    · show f_X7_key N S x y = _
      rw [f_X7_key, isMacro_no N hM.2.1 x hx, cal_s, if_pos (by rfl)]
  · have hi := mac_lt hm
    have h3 := ha.1.1
    obtain ⟨m1, m2, m3, m4, m5, m6⟩ := ha.1.2 i m hm
    have hin : inb (nI i) 3 = true := (inb_i (by omega)).mpr (by omega)
    rcases pk_ix y (n := m.2.2.length) (by omega) with h | h | ⟨j, h1, rfl⟩
    · refine ⟨-1, a, fun S hC => ⟨S, ?_, hC, frC.rf S⟩, fun S hM => ⟨S, ?_, hM, frM.rf S⟩⟩
      · show f_X6_key N S (nI i) y = _
        rw [f_X6_key, macroOf_ok N hC.2.1 hi, cal_s, opt_1, if_pos (by omega), f_X2_keyAt, if_pos h, cal_s, if_pos rfl]
      · show f_X7_key N S (nI i) y = _
        rw [f_X7_key, isMacro_ok N ha.1 hM.2.1 hi, cal_s, if_neg (by decide), if_pos h]
    · have hn : ¬ y < 0 := fun z => by
        have h1 := Int32.lt_iff_toInt_lt.mp z
        have h2 := Int32.le_iff_toInt_le.mp h
        rw [nI_toInt (by omega)] at h2
        have e0 : (0 : Int32).toInt = 0 := rfl
        omega
      refine ⟨-1, a, fun S hC => ⟨S, ?_, hC, frC.rf S⟩, fun S hM => ⟨S, ?_, hM, frM.rf S⟩⟩
      · show f_X6_key N S (nI i) y = _
        rw [f_X6_key, macroOf_ok N hC.2.1 hi, cal_s, opt_1, if_pos (by omega), f_X2_keyAt, if_neg hn, (hC.2.1.2.1.2 i m hm).2.2.1, if_pos h, cal_s, if_pos rfl]
      · show f_X7_key N S (nI i) y = _
        rw [f_X7_key, isMacro_ok N ha.1 hM.2.1 hi, cal_s, if_neg (by decide), if_neg hn, if_pos hin, n_cl (by omega), (hM.2.1.2 i m hm).2.2.1, if_pos h]
    · obtain ⟨k, hk⟩ : ∃ k, m.2.2[j]? = some k := ⟨m.2.2[j], List.getElem?_eq_getElem h1⟩
      refine ⟨nI k, a, fun S hC => ⟨S, ?_, hC, frC.rf S⟩, fun S hM => ⟨S, ?_, hM, frM.rf S⟩⟩
      · show f_X6_key N S (nI i) (nI j) = _
        rw [f_X6_key, macroOf_ok N hC.2.1 hi, cal_s, opt_1, if_pos (by omega), keyAt_ok N hC.2.1 hm hk, cal_s, if_neg (show ¬ nI k = (-9 : Int32) from n_neg 9 k (by decide) (by decide) (by have := m6 k (List.mem_of_getElem? hk); omega))]
      · show f_X7_key N S (nI i) (nI j) = _
        rw [f_X7_key, isMacro_ok N ha.1 hM.2.1 hi, cal_s, if_neg (by decide), if_neg (nI_pos (by omega)), if_pos hin, n_cl (by omega), (hM.2.1.2 i m hm).2.2.1, if_neg (nI_ge h1 (by omega)), n_mul, n_add, if_pos ((inb_i (by omega)).mpr (by omega)), n_cl (by omega), (hM.2.1.2 i m hm).2.2.2 j k hk]
theorem b_back (N : Nat) (x : Int32) : Both (fun S => f_X6_back N S x) (fun S => f_X7_back N S x) := by
  refine Both.of fun a ha => ?_
  have h8 := ha.2.2.1.1
  by_cases hx : x < 0 ∨ nI a.2.2.2.2.2.1.length < x
  · refine ⟨-2, a, fun S hC => ⟨S, ?_, hC, frC.rf S⟩, fun S hM => ⟨S, ?_, hM, frM.rf S⟩⟩
    · show f_X6_back N S x = _
      rw [f_X6_back, hC.2.2.2.2.2.2.1.1]
      by_cases c1 : x < 0
      · rw [if_pos c1]
      · rw [if_neg c1, if_neg (i_lt_nle (hx.resolve_left c1))]
    · show f_X7_back N S x = _
      rw [f_X7_back, hM.2.2.2.2.2.2.1.1, within_no N S (lo := nI 0) hx, cal_s, if_pos (by rfl)]
  · obtain ⟨n, -, n2, rfl⟩ := rng (lo := 0) (hi := a.2.2.2.2.2.1.length) (by decide) (by omega) (fun z => hx (Or.inl z)) (fun z => hx (Or.inr z))
    have hlen : (a.2.2.2.2.2.1.take (a.2.2.2.2.2.1.length - n)).length = a.2.2.2.2.2.1.length - n := by rw [List.length_take]; omega
    have ho : (a.2.2.2.2.2.1.take (a.2.2.2.2.2.1.length - n)).length ≤ 8 ∧ ∀ q ∈ a.2.2.2.2.2.1.take (a.2.2.2.2.2.1.length - n), q.1 < a.1.length ∧ q.2 ≤ 5 := ⟨by omega, fun q hq => ha.2.2.1.2 q (List.mem_of_mem_take hq)⟩
    have hg : ∀ r q, (a.2.2.2.2.2.1.take (a.2.2.2.2.2.1.length - n))[r]? = some q → a.2.2.2.2.2.1[r]? = some q := fun r q hq => by
      rw [List.getElem?_take] at hq
      by_cases c : r < a.2.2.2.2.2.1.length - n
      · rw [if_pos c] at hq; exact hq
      · rw [if_neg c] at hq; cases hq
    refine ⟨nI (a.2.2.2.2.2.1.length - n), _, fun S hC => ⟨st S 0 6 (nI (a.2.2.2.2.2.1.length - n)), ?_, hC.rd (S' := st S 0 6 (nI (a.2.2.2.2.2.1.length - n))) (fun k _ hk _ _ => st_ne hk) (fun j hj => st_n hj) ho ⟨by rw [st_s, hlen], fun r q hq => ?_⟩, frC.st (by decide) S _ _⟩, fun S hM => ⟨st S 32 32 (nI (a.2.2.2.2.2.1.length - n)), ?_, hM.rd (S' := st S 32 32 (nI (a.2.2.2.2.2.1.length - n))) (fun k hk _ _ => st_ne hk) (fun j hj => st_n hj) ho ⟨by rw [st_s, hlen], fun r q hq => ?_⟩, frM.st (by decide) S _ _⟩⟩
    · show f_X6_back N S (nI n) = _
      rw [f_X6_back, if_neg (nI_pos (by omega)), hC.2.2.2.2.2.2.1.1, if_pos (nI_le n2 (by omega)), bnd_e, n_sub n2, st_s]
    · rw [st_ne (by decide), st_ne (by decide)]
      exact hC.2.2.2.2.2.2.1.2 r q (hg r q hq)
    · show f_X7_back N S (nI n) = _
      rw [f_X7_back, hM.2.2.2.2.2.2.1.1, within_in N S (Nat.zero_le _) n2 (by omega), cal_s, if_neg (by decide), bnd_e, hM.2.2.2.2.2.2.1.1, n_sub n2, st_s]
    · rw [st_ne (by decide), st_ne (by decide)]
      exact hM.2.2.2.2.2.2.1.2 r q (hg r q hq)
theorem b_reading (N : Nat) (x y : Int32) : Both (fun S => f_X6_reading N S x y) (fun S => f_X7_reading N S x y) := by
  refine Both.of fun a ha => ?_
  have h8 := ha.2.2.1.1
  rcases is_mac a.1 ha.1 x with hx | ⟨i, m, rfl, hm⟩
  · refine ⟨-1, a, fun S hC => ⟨S, ?_, hC, frC.rf S⟩, fun S hM => ⟨S, ?_, hM, frM.rf S⟩⟩
    · show f_X6_reading N S x y = _
      rw [f_X6_reading, macroOf_no N hC.2.1 x hx, cal_s, opt_0]
    · show f_X7_reading N S x y = _
      rw [f_X7_reading, isMacro_no N hM.2.1 x hx, cal_s, if_pos (by rfl)]
  · have hi := mac_lt hm
    have h3 := ha.1.1
    by_cases hy : y < 0 ∨ nI 5 < y
    · refine ⟨-2, a, fun S hC => ⟨S, ?_, hC, frC.rf S⟩, fun S hM => ⟨S, ?_, hM, frM.rf S⟩⟩
      · show f_X6_reading N S (nI i) y = _
        rw [f_X6_reading, macroOf_ok N hC.2.1 hi, cal_s, opt_1, if_pos (by omega)]
        by_cases c1 : y < 0
        · rw [if_pos c1]
        · rw [if_neg c1, if_neg (i_lt_nle (hy.resolve_left c1))]
      · show f_X7_reading N S (nI i) y = _
        rw [f_X7_reading, isMacro_ok N ha.1 hM.2.1 hi, cal_s, if_neg (by decide), within_no N S (lo := nI 0) hy, cal_s, if_pos (by rfl)]
    · obtain ⟨n, -, n2, rfl⟩ := rng (lo := 0) (hi := 5) (by decide) (by decide) (fun z => hy (Or.inl z)) (fun z => hy (Or.inr z))
      by_cases hf : a.2.2.2.2.2.1.length = 8
      · refine ⟨-4, a, fun S hC => ⟨S, ?_, hC, frC.rf S⟩, fun S hM => ⟨S, ?_, hM, frM.rf S⟩⟩
        · show f_X6_reading N S (nI i) (nI n) = _
          rw [f_X6_reading, macroOf_ok N hC.2.1 hi, cal_s, opt_1, if_pos (by omega), if_neg (nI_pos (by omega)), if_pos (nI_le n2 (by omega)), hC.2.2.2.2.2.2.1.1, if_neg (nI_nlt (by omega) (by omega))]
        · show f_X7_reading N S (nI i) (nI n) = _
          rw [f_X7_reading, isMacro_ok N ha.1 hM.2.1 hi, cal_s, if_neg (by decide), within_in N S (Nat.zero_le _) n2 (by decide), cal_s, if_neg (by decide), hM.2.2.2.2.2.2.1.1, if_pos (by rw [hf])]
      · have hin : inb (nI a.2.2.2.2.2.1.length) 8 = true := (inb_i (by omega)).mpr (by omega)
        have ho : (a.2.2.2.2.2.1 ++ [(i, n)]).length ≤ 8 ∧ ∀ q ∈ a.2.2.2.2.2.1 ++ [(i, n)], q.1 < a.1.length ∧ q.2 ≤ 5 := ⟨by rw [List.length_append, List.length_singleton]; omega, fun q hq => by
          rcases List.mem_append.mp hq with h | h
          · exact ha.2.2.1.2 q h
          · rw [List.mem_singleton.mp h]; exact ⟨hi, n2⟩⟩
        have hg : ∀ r q, (a.2.2.2.2.2.1 ++ [(i, n)])[r]? = some q → (r ≠ a.2.2.2.2.2.1.length ∧ a.2.2.2.2.2.1[r]? = some q) ∨ (r = a.2.2.2.2.2.1.length ∧ q = (i, n)) := fun r q hq => by
          by_cases c : r < a.2.2.2.2.2.1.length
          · rw [List.getElem?_append_left c] at hq; exact Or.inl ⟨by omega, hq⟩
          · rw [List.getElem?_append_right (by omega)] at hq
            have hz : r - a.2.2.2.2.2.1.length < 1 := (List.getElem?_eq_some_iff.mp hq).1
            rw [show r - a.2.2.2.2.2.1.length = 0 by omega] at hq
            exact Or.inr ⟨by omega, (Option.some.inj hq).symm⟩
        have hlen : (a.2.2.2.2.2.1 ++ [(i, n)]).length = a.2.2.2.2.2.1.length + 1 := by rw [List.length_append, List.length_singleton]
        refine ⟨nI a.2.2.2.2.2.1.length, _, fun S hC => ⟨st (st (st S 10 a.2.2.2.2.2.1.length (nI i)) 11 a.2.2.2.2.2.1.length (nI n)) 0 6 (nI (a.2.2.2.2.2.1.length + 1)), ?_, hC.rd (S' := st (st (st S 10 a.2.2.2.2.2.1.length (nI i)) 11 a.2.2.2.2.2.1.length (nI n)) 0 6 (nI (a.2.2.2.2.2.1.length + 1))) (fun k _ k0 k1 k2 => by rw [st_ne k0, st_ne k2, st_ne k1]) (fun j hj => by rw [st_n hj, st_ne (by decide), st_ne (by decide)]) ho ⟨by rw [st_s, hlen], fun r q hq => ?_⟩, ((frC.st (by decide) S _ _).tr (frC.st (by decide) _ _ _)).tr (frC.st (by decide) _ _ _)⟩, fun S hM => ⟨st (st (st S 52 a.2.2.2.2.2.1.length (nI i)) 53 a.2.2.2.2.2.1.length (nI n)) 32 32 (nI (a.2.2.2.2.2.1.length + 1)), ?_, hM.rd (S' := st (st (st S 52 a.2.2.2.2.2.1.length (nI i)) 53 a.2.2.2.2.2.1.length (nI n)) 32 32 (nI (a.2.2.2.2.2.1.length + 1))) (fun k k0 k1 k2 => by rw [st_ne k0, st_ne k2, st_ne k1]) (fun j hj => by rw [st_n hj, st_ne (by decide), st_ne (by decide)]) ho ⟨by rw [st_s, hlen], fun r q hq => ?_⟩, ((frM.st (by decide) S _ _).tr (frM.st (by decide) _ _ _)).tr (frM.st (by decide) _ _ _)⟩⟩
        · show f_X6_reading N S (nI i) (nI n) = _
          rw [f_X6_reading, macroOf_ok N hC.2.1 hi, cal_s, opt_1, if_pos (by omega), if_neg (nI_pos (by omega)), if_pos (nI_le n2 (by omega)), hC.2.2.2.2.2.2.1.1, if_pos (nI_lt (by omega) (by omega)), if_pos hin, bnd_e, st_ne (by decide), hC.2.2.2.2.2.2.1.1, if_pos hin, bnd_e, bnd_e, n_cl (by omega), st_ne (by decide), st_ne (by decide), hC.2.2.2.2.2.2.1.1, n_add]
        · refine ⟨?_, ?_⟩
          · rw [st_ne (show (10 : Nat) ≠ 0 by decide), st_ne (show (10 : Nat) ≠ 11 by decide)]
            rcases hg r q hq with ⟨z1, z2⟩ | ⟨rfl, rfl⟩
            · rw [st_n z1]; exact (hC.2.2.2.2.2.2.1.2 r q z2).1
            · rw [st_s]
          · rw [st_ne (show (11 : Nat) ≠ 0 by decide)]
            rcases hg r q hq with ⟨z1, z2⟩ | ⟨rfl, rfl⟩
            · rw [st_n z1, st_ne (by decide)]; exact (hC.2.2.2.2.2.2.1.2 r q z2).2
            · rw [st_s]
        · show f_X7_reading N S (nI i) (nI n) = _
          rw [f_X7_reading, isMacro_ok N ha.1 hM.2.1 hi, cal_s, if_neg (by decide), within_in N S (Nat.zero_le _) n2 (by decide), cal_s, if_neg (by decide), hM.2.2.2.2.2.2.1.1, if_neg (by rw [n_eq (by omega) (by omega)]; exact hf), if_pos hin, bnd_e, st_ne (by decide), hM.2.2.2.2.2.2.1.1, if_pos hin, bnd_e, bnd_e, n_cl (by omega), st_s, st_ne (by decide), st_ne (by decide), hM.2.2.2.2.2.2.1.1, n_add, n_sub (by omega), Nat.add_sub_cancel]
        · refine ⟨?_, ?_⟩
          · rw [st_ne (show (52 : Nat) ≠ 32 by decide), st_ne (show (52 : Nat) ≠ 53 by decide)]
            rcases hg r q hq with ⟨z1, z2⟩ | ⟨rfl, rfl⟩
            · rw [st_n z1]; exact (hM.2.2.2.2.2.2.1.2 r q z2).1
            · rw [st_s]
          · rw [st_ne (show (53 : Nat) ≠ 32 by decide)]
            rcases hg r q hq with ⟨z1, z2⟩ | ⟨rfl, rfl⟩
            · rw [st_n z1, st_ne (by decide)]; exact (hM.2.2.2.2.2.2.1.2 r q z2).2
            · rw [st_s]
