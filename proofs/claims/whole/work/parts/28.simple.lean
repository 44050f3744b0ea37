/-! THE SIMPLE CALLS -/
theorem frC.st {q : Nat} (hq : q < 32) (S : St) (x : Nat) (v : Int32) : frC S (st S q x v) := fun k hk => st_ne (by omega)
theorem frM.st {q : Nat} (hq : 32 ≤ q) (S : St) (x : Nat) (v : Int32) : frM S (st S q x v) := fun k hk => st_ne (by omega)
theorem frC.tr {S T U : St} (h : frC S T) (g : frC T U) : frC S U := fun k hk => (g k hk).trans (h k hk)
theorem frM.tr {S T U : St} (h : frM S T) (g : frM T U) : frM S U := fun k hk => (g k hk).trans (h k hk)
theorem frC.rf (S : St) : frC S S := fun _ _ => rfl
theorem frM.rf (S : St) : frM S S := fun _ _ => rfl
theorem frW.M {S S' : St} (h : frW S S') : frM S S' := fun k hk => h.1 k (by omega) (by omega)
theorem frP.M {D : Nat} {S S' : St} (h : frP D S S') : frM S S' := fun k hk => h.1 k (by omega) (by omega) (by omega) (by omega) (by omega)
theorem fr3.C {S S' : St} (h : fr3 S S') : frC S S' := fun k hk => h k (by omega)
/-- the working registers don't matter -/
theorem RM.W {S S' : St} {a : Ab} (h : RM S a) (hf : frW S S') : RM S' a := by
  have := h.re (S' := S') (fun k hk => hf.1 k (by omega) (by omega)) ⟨hf.2 5 (by decide) (by decide) (by decide), hf.2 27 (by decide) (by decide) (by decide), hf.2 28 (by decide) (by decide) (by decide), hf.2 32 (by decide) (by decide) (by decide)⟩ h.1.2.1 ((hf.2 7 (by decide) (by decide) (by decide)).trans h.2.2.1) ((hf.2 6 (by decide) (by decide) (by decide)).trans h.2.2.2.1) ((hf.2 1 (by decide) (by decide) (by decide)).trans h.2.2.2.2.1) ((hf.2 0 (by decide) (by decide) (by decide)).trans h.2.2.2.2.2.1)
  exact this
theorem RM.P {S S' : St} {a : Ab} (h : RM S a) (hf : frP 0 S S') : RM S' a := by
  have := h.re (S' := S') (fun k hk => hf.1 k (by omega) (by omega) (by omega) (by omega) (by omega)) ⟨hf.2.1 5 (by decide) (by decide) (by decide), hf.2.1 27 (by decide) (by decide) (by decide), hf.2.1 28 (by decide) (by decide) (by decide), hf.2.1 32 (by decide) (by decide) (by decide)⟩ h.1.2.1 ((hf.2.1 7 (by decide) (by decide) (by decide)).trans h.2.2.1) ((hf.2.1 6 (by decide) (by decide) (by decide)).trans h.2.2.2.1) ((hf.2.1 1 (by decide) (by decide) (by decide)).trans h.2.2.2.2.1) ((hf.2.1 0 (by decide) (by decide) (by decide)).trans h.2.2.2.2.2.1)
  exact this
theorem b_trace (N : Nat) : Both (fun S => f_X6_trace N S) (fun S => f_X7_trace N S) := Both.of fun a ha => ⟨a.2.2.2.1, a, fun S h => ⟨S, by show f_X6_trace N S = _; rw [f_X6_trace, h.2.2.2.2.1], h, frC.rf S⟩, fun S h => ⟨S, by show f_X7_trace N S = _; rw [f_X7_trace, h.2.2.2.2.1], h, frM.rf S⟩⟩
theorem b_fault (N : Nat) : Both (fun S => f_X6_fault N S) (fun S => f_X7_fault N S) := Both.of fun a ha => ⟨a.2.2.2.2.1, a, fun S h => ⟨S, by show f_X6_fault N S = _; rw [f_X6_fault, h.2.2.2.2.2.1], h, frC.rf S⟩, fun S h => ⟨S, by show f_X7_fault N S = _; rw [f_X7_fault, h.2.2.2.2.2.1], h, frM.rf S⟩⟩
theorem b_many {N : Nat} (hN : 7 ≤ N) (x : Int32) : Both (fun S => f_X6_many N S x) (fun S => f_X7_many N S x) := by
  refine Both.of fun a ha => ⟨if x = nI 0 then nI a.1.length else if x = nI 1 then nI a.2.1.1 else if x = nI 2 then nI a.2.1.2.1 else if x = nI 3 then a.2.2.1 else if x = nI 4 then nI a.2.2.2.2.2.1.length else -2, a, fun S h => ⟨S, ?_, h, frC.rf S⟩, fun S h => ?_⟩
  · show f_X6_many N S x = _
    rw [f_X6_many, bnd_e, h.2.2.1, countOf_ok hN S ha.2.1, cal_s, cursorOf_ok hN S ha.2.1, cal_s, h.2.1.2.1.1, h.2.2.2.1, h.2.2.2.2.2.2.1.1]
    repeat (first | rfl | split)
  · obtain ⟨S', a1, a2, a3, a4⟩ := workOn_ok hN S ha.2.1
    have h' := h.W a3
    refine ⟨S', ?_, h', a3.M⟩
    show f_X7_many N S x = _
    rw [f_X7_many, h.2.2.1, a1, cal_s, bnd_e, h'.2.1.1, a2.2.1, a2.2.2.1, h'.2.2.2.1, h'.2.2.2.2.2.2.1.1]
    repeat (first | rfl | split)
theorem b_letter {N : Nat} (hN : 7 ≤ N) (x : Int32) : Both (fun S => f_X6_letter N S x) (fun S => f_X7_letter N S x) := by
  refine Both.of fun a ha => ?_
  have hl := ha.2.1
  have h5 := hl.1
  rcases pk_ix x (n := a.2.1.1) (by omega) with h | h | ⟨j, h1, rfl⟩
  · refine ⟨-1, a, fun S hC => ⟨S, ?_, hC, frC.rf S⟩, fun S hM => ?_⟩
    · show f_X6_letter N S x = _
      rw [f_X6_letter, if_pos h]
    · obtain ⟨S', a1, a2, a3, a4⟩ := workOn_ok hN S hl
      refine ⟨S', ?_, hM.W a3, a3.M⟩
      show f_X7_letter N S x = _
      rw [f_X7_letter, hM.2.2.1, a1, cal_s, if_pos h]
  · have hn : ¬ x < 0 := fun z => by
      have h1 := Int32.lt_iff_toInt_lt.mp z
      have h2 := Int32.le_iff_toInt_le.mp h
      rw [nI_toInt (by omega)] at h2
      have e0 : (0 : Int32).toInt = 0 := rfl
      omega
    refine ⟨-1, a, fun S hC => ⟨S, ?_, hC, frC.rf S⟩, fun S hM => ?_⟩
    · show f_X6_letter N S x = _
      rw [f_X6_letter, if_neg hn, hC.2.2.1, countOf_ok hN S hl, cal_s, if_neg (i_le_nlt h)]
    · obtain ⟨S', a1, a2, a3, a4⟩ := workOn_ok hN S hl
      refine ⟨S', ?_, hM.W a3, a3.M⟩
      show f_X7_letter N S x = _
      rw [f_X7_letter, hM.2.2.1, a1, cal_s, if_neg hn, a2.2.1, if_pos h]
  · refine ⟨nI (dg a.2.1 j), a, fun S hC => ⟨S, ?_, hC, frC.rf S⟩, fun S hM => ?_⟩
    · show f_X6_letter N S (nI j) = _
      rw [f_X6_letter, if_neg (nI_pos (by omega)), hC.2.2.1, countOf_ok hN S hl, cal_s, if_pos (nI_lt h1 (by omega)), hC.2.2.1, letterAt_ok hN S hl h1, cal_s]
    · obtain ⟨S', a1, a2, a3, a4⟩ := workOn_ok hN S hl
      refine ⟨S', ?_, hM.W a3, a3.M⟩
      show f_X7_letter N S (nI j) = _
      rw [f_X7_letter, hM.2.2.1, a1, cal_s, if_neg (nI_pos (by omega)), a2.2.1, if_neg (nI_ge h1 (by omega)), if_pos ((inb_i (by omega)).mpr (by omega)), n_cl (by omega), a2.2.2.2 j h1]
theorem e_ok : okL (0, 0, 0) := by unfold okL; decide
theorem b_clear {N : Nat} (hN : 7 ≤ N) : Both (fun S => f_X6_clear N S) (fun S => f_X7_clear N S) := by
  refine Both.of fun a ha => ⟨nI a.2.1.1, (a.1, (0, 0, 0), a.2.2), fun S h => ?_, fun S h => ?_⟩
  · refine ⟨st S 0 7 (nI 0), ?_, ?_, frC.st (by decide) S _ _⟩
    · show f_X6_clear N S = _
      rw [f_X6_clear, h.2.2.1, countOf_ok hN S ha.2.1, cal_s, bnd_e]
    · exact h.re (fun k _ hk => st_ne hk) (st_n (by decide)) e_ok st_s ((st_n (by decide)).trans h.2.2.2.1) ((st_n (by decide)).trans h.2.2.2.2.1) ((st_n (by decide)).trans h.2.2.2.2.2.1)
  · obtain ⟨S', a1, a2, a3, a4⟩ := workOn_ok hN S ha.2.1
    have h' := h.W a3
    refine ⟨st S' 32 7 (nI 0), ?_, ?_, a3.M.tr (frM.st (by decide) _ _ _)⟩
    · show f_X7_clear N S = _
      rw [f_X7_clear, h.2.2.1, a1, cal_s, bnd_e, st_n (by decide), a2.2.1]
    · exact h'.re (fun k hk => st_ne (by omega)) ⟨st_n (by decide), st_n (by decide), st_n (by decide), st_n (by decide)⟩ e_ok st_s ((st_n (by decide)).trans h'.2.2.2.1) ((st_n (by decide)).trans h'.2.2.2.2.1) ((st_n (by decide)).trans h'.2.2.2.2.2.1)
theorem b_press {N : Nat} (hN : 7 ≤ N) (x : Int32) : Both (fun S => f_X6_press N S x) (fun S => f_X7_press N S x) := by
  refine Both.of fun a ha => ?_
  have hl := ha.2.1
  by_cases hx : x < 0 ∨ nI 7 < x
  · refine ⟨-2, a, fun S hC => ⟨S, ?_, hC, frC.rf S⟩, fun S hM => ⟨S, ?_, hM, frM.rf S⟩⟩
    · show f_X6_press N S x = _
      rw [f_X6_press]
      by_cases c1 : x < 0
      · rw [if_pos c1]
      · rw [if_neg c1, if_neg]
        intro c2
        have h1 := Int32.lt_iff_toInt_lt.mp c2
        have h2 := Int32.lt_iff_toInt_lt.mp (hx.resolve_left c1)
        rw [nI_toInt (by omega)] at h1 h2
        omega
    · show f_X7_press N S x = _
      rw [f_X7_press, within_no N S (lo := nI 0) (hi := nI 7) hx, cal_s, if_pos (by rfl)]
  · obtain ⟨key, -, k7, rfl⟩ := rng (lo := 0) (hi := 7) (by decide) (by decide) (fun z => hx (Or.inl z)) (fun z => hx (Or.inr z))
    have hact := act_ok hl (key := key) (by omega)
    have hc1 := cn_lt hl
    have hc2 := cn_lt hact
    refine ⟨nI (b01 (!bmp key a.2.1)), (a.1, act key a.2.1, a.2.2.1 + nI 1, a.2.2.2), fun S hC => ?_, fun S hM => ?_⟩
    · refine ⟨st (st S 0 7 (nI (cn (act key a.2.1)))) 0 8 (S 0 8 + nI 1), ?_, ?_, (frC.st (by decide) _ _ _).tr (frC.st (by decide) _ _ _)⟩
      · show f_X6_press N S (nI key) = _
        rw [f_X6_press, if_neg (nI_pos (by omega)), if_pos (nI_lt (by omega) (by omega)), bnd_e, hC.2.2.1, after_ok hN S hl (by omega), cal_s, bnd_e, bnd_e]
        simp only [st_n (show (7 : Nat) ≠ 8 by decide), st_n (show (8 : Nat) ≠ 7 by decide), st_s]
        by_cases hb : bmp key a.2.1 = true
        · rw [(bmp_act hl (by omega)).mp hb, if_pos rfl, hb]; rfl
        · rw [if_neg, ts_nt' hb]
          · rfl
          · rw [n_eq (by omega) (by omega)]
            exact fun z => hb ((bmp_act hl (by omega)).mpr (cn_inj hact hl z))
      · exact hC.re (fun k _ hk => by rw [st_ne hk, st_ne hk]) (by rw [st_n (by decide), st_n (by decide)]) hact (by rw [st_n (by decide), st_s]) (by rw [st_s, hC.2.2.2.1]) (by rw [st_n (by decide), st_n (by decide), hC.2.2.2.2.1]) (by rw [st_n (by decide), st_n (by decide), hC.2.2.2.2.2.1])
    · obtain ⟨S1, a1, a2, a3, a4⟩ := workOn_ok hN S hl
      obtain ⟨S2, b1, b2, b3, b4⟩ := presses_ok hN S1 a2 (key := key) (by omega)
      have h' := (hM.W a3).W b3
      refine ⟨st (st S2 32 7 (nI (rn (act key a.2.1)))) 32 6 (S2 32 6 + nI 1), ?_, ?_, ((a3.M.tr b3.M).tr (frM.st (by decide) _ _ _)).tr (frM.st (by decide) _ _ _)⟩
      · show f_X7_press N S (nI key) = _
        rw [f_X7_press, within_in N S (Nat.zero_le _) k7 (by decide), cal_s, if_neg (by decide), hM.2.2.1, a1, cal_s, b1, cal_s, number_ok hN S2 b2, cal_s, bnd_e, bnd_e, st_n (by decide)]
        cases bmp key a.2.1 <;> rfl
      · exact h'.re (fun k hk => by rw [st_ne (by omega), st_ne (by omega)]) (by rw [st_n (by decide), st_n (by decide), st_n (by decide), st_n (by decide), st_n (by decide), st_n (by decide), st_n (by decide), st_n (by decide)]; exact ⟨rfl, rfl, rfl, rfl⟩) hact (by rw [st_n (by decide), st_s]) (by rw [st_s, h'.2.2.2.1]) (by rw [st_n (by decide), st_n (by decide), h'.2.2.2.2.1]) (by rw [st_n (by decide), st_n (by decide), h'.2.2.2.2.2.1])
theorem b_play {N : Nat} (hN : 15100 ≤ N) (x : Int32) : Both (fun S => f_X6_play N S x) (fun S => f_X7_play N S x) := by
  refine Both.of fun a ha => ?_
  have hl := ha.2.1
  rcases is_mac a.1 ha.1 x with hx | ⟨i, m, rfl, hm⟩
  · refine ⟨-1, a, fun S hC => ⟨S, ?_, hC, frC.rf S⟩, fun S hM => ⟨S, ?_, hM, frM.rf S⟩⟩
    · show f_X6_play N S x = _
      rw [f_X6_play, macroOf_no N hC.2.1 x hx, cal_s, opt_0]
    · show f_X7_play N S x = _
      rw [f_X7_play, isMacro_no N hM.2.1 x hx, cal_s, if_pos (by rfl)]
  · have hi := mac_lt hm
    have h3 := ha.1.1
    have hef := ef_ok ha.1 i a.2.1 hl
    have hb := ef_b ha.1 (i := i) (by omega) hl
    have hke : keyE (ef a.1) (8 + i) (a.2.1, 0) = ef a.1 i a.2.1 := by
      unfold keyE
      rw [if_neg (by omega), show 8 + i - 8 = i by omega]
      dsimp only
      rw [Nat.zero_add]
    refine ⟨nI (ef a.1 i a.2.1).2, (a.1, (ef a.1 i a.2.1).1, a.2.2.1 + nI 1, a.2.2.2), fun S hC => ?_, fun S hM => ?_⟩
    · obtain ⟨S1, b1, b2, b3⟩ := effect_ok (N := N) (by omega) a.1 ha.1 3 (by omega) S a.2.1 (8 + i) hC.2.1 hl (by omega) (by omega)
      have h' := hC.of3 b2 b3
      rw [hke] at b1
      obtain ⟨S5, d1, d2, d3⟩ : ∃ S5, g_X0_effectOf N 5 S (nI (cn a.2.1)) (nI (8 + i)) = some (nI (pk (ef a.1 i a.2.1)), S5) ∧ KC S5 a.1 ∧ fr3 S S5 := by
        obtain ⟨S5, e1, e2, e3⟩ := eff_mac (N := N) (by omega) ha.1 (d := 3) (fe := g_X0_effectOf N 4) (fun j hj => by
          have := effect_ok (N := N) (by omega) a.1 ha.1 3 (by omega)
          exact fun S l k h1 h2 h3 h4 => this S l k h1 h2 (by omega) h4) S a.2.1 (8 + i) hC.2.1 hl (by omega) (by omega) (by omega)
        rw [hke] at e1
        exact ⟨S5, e1, e2, e3⟩
      have h5 := hC.of3 d2 d3
      refine ⟨st (st S5 0 7 (nI (cn (ef a.1 i a.2.1).1))) 0 8 (S5 0 8 + nI 1), ?_, ?_, (d3.C.tr (frC.st (by decide) _ _ _)).tr (frC.st (by decide) _ _ _)⟩
      · show f_X6_play N S (nI i) = _
        rw [f_X6_play, macroOf_ok N hC.2.1 hi, cal_s, opt_1, if_pos (by omega), hC.2.2.1, n_add, d1, cal_s, lineOf_pk N S5 hef.1 (by omega), cal_s, bnd_e, bnd_e, st_n (by decide), bumpsOf_pk N _ hef.1 (by omega), cal_s]
      · exact h5.re (fun k _ hk => by rw [st_ne hk, st_ne hk]) (by rw [st_n (by decide), st_n (by decide)]) hef.1 (by rw [st_n (by decide), st_s]) (by rw [st_s, h5.2.2.2.1]) (by rw [st_n (by decide), st_n (by decide), h5.2.2.2.2.1]) (by rw [st_n (by decide), st_n (by decide), h5.2.2.2.2.2.1])
    · obtain ⟨S1, a1, a2, a3, a4⟩ := workOn_ok (N := N) (by omega) S hl
      have hR2 : Reg (st S1 32 22 (nI 0)) a.2.1 := ⟨a2.1, by rw [st_n (by decide)]; exact a2.2.1, by rw [st_n (by decide)]; exact a2.2.2.1, fun p hp => by rw [st_ne (by decide)]; exact a2.2.2.2 p hp⟩
      have f2 : frW S (st S1 32 22 (nI 0)) := a3.tr (frW.st22 _ _)
      have hM2 := hM.W f2
      obtain ⟨S2, b1, b2, b3, b4⟩ := plays_ok hN ha.1 hM2.2.1 hR2 hi
      have h' := hM2.P b4
      refine ⟨st (st S2 32 7 (nI (rn (ef a.1 i a.2.1).1))) 32 6 (S2 32 6 + nI 1), ?_, ?_, ((f2.M.tr b4.M).tr (frM.st (by decide) _ _ _)).tr (frM.st (by decide) _ _ _)⟩
      · show f_X7_play N S (nI i) = _
        rw [f_X7_play, isMacro_ok N ha.1 hM.2.1 hi, cal_s, if_neg (by decide), hM.2.2.1, a1, cal_s, bnd_e, b1, cal_s, number_ok (by omega) S2 b2, cal_s, bnd_e, bnd_e, st_n (by decide), st_n (by decide), st_n (by decide), b3, st_s, n_add, Nat.zero_add]
      · exact h'.re (fun k hk => by rw [st_ne (by omega), st_ne (by omega)]) (by rw [st_n (by decide), st_n (by decide), st_n (by decide), st_n (by decide), st_n (by decide), st_n (by decide), st_n (by decide), st_n (by decide)]; exact ⟨rfl, rfl, rfl, rfl⟩) hef.1 (by rw [st_n (by decide), st_s]) (by rw [st_s, h'.2.2.2.1]) (by rw [st_n (by decide), st_n (by decide), h'.2.2.2.2.1]) (by rw [st_n (by decide), st_n (by decide), h'.2.2.2.2.2.1])
