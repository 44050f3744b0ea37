/-! CHANGES OF A MACRO: times (and what timings and kinds need) -/
theorem fillR (N q n : Nat) (hn : n < 2147483648) : ∀ (d i f : Nat) (S : St), i + d = n → d < f → ∃ S', f_J7_fill_fda19_10 N f S q n (nI n) (nI 0) (nI i) = some ((), S') ∧ (∀ k, k ≠ q → S' k = S k) ∧ ∀ x, S' q x = if i ≤ x ∧ x < n then nI 0 else S q x := by
  intro d
  induction d with
  | zero =>
    intro i f S hi hf
    obtain ⟨g, rfl⟩ : ∃ g, f = g + 1 := ⟨f - 1, by omega⟩
    rw [f_J7_fill_fda19_10, if_pos (nI_le (by omega) (by omega))]
    exact ⟨S, rfl, fun _ _ => rfl, fun x => by rw [if_neg (by omega)]⟩
  | succ d ih =>
    intro i f S hi hf
    obtain ⟨g, rfl⟩ : ∃ g, f = g + 1 := ⟨f - 1, by omega⟩
    rw [f_J7_fill_fda19_10, if_neg (nI_ge (by omega) (by omega)), if_pos ((inb_i (by omega)).mpr (by omega)), bnd_e, bnd_e, n_cl (by omega), n_add]
    obtain ⟨S', a1, a2, a3⟩ := ih (i + 1) g (st S q i (nI 0)) (by omega) (by omega)
    refine ⟨S', a1, fun k hk => (a2 k hk).trans (st_ne hk), fun x => ?_⟩
    rw [a3 x]
    by_cases c1 : x = i
    · rw [if_neg (by omega), if_pos (by omega), c1, st_s]
    · by_cases c2 : i + 1 ≤ x ∧ x < n
      · rw [if_pos c2, if_pos (by omega)]
      · rw [if_neg c2, if_neg (by omega), st_n c1]
theorem forget_ok {N : Nat} (hN : 23300 ≤ N) (S : St) {i : Nat} (hi : i < 3) : ∃ S', f_X0_forget N S (nI i) = some ((), S') ∧ fr3 S S' ∧ ∀ x, S' 3 x = if i * 7737 ≤ x ∧ x < 23211 then nI 0 else S 3 x := by
  obtain ⟨S', a1, a2, a3⟩ := fillR N 3 23211 (by decide) (23211 - i * 7737) (i * 7737) N S (by omega) (by omega)
  refine ⟨S', ?_, a2, a3⟩
  rw [f_X0_forget, if_neg (nI_pos (by omega)), if_neg (nI_ge (by omega) (by omega)), n_mul, f_J7_fill_fda19, f_J7_rangeCheck_23922, if_pos (nI_le (by omega) (by omega)), if_pos (nI_pos' (by omega)), show Int32.ofNat 23211 = nI 23211 from rfl, if_pos (nI_le (Nat.le_refl _) (by omega)), cal_s, a1, cal_s]
/-- macros ahead of a changed one do as before -/
theorem ef_set {c : List Mac} (hc : okC c) {i : Nat} {m : Mac} (hc' : okC (c.set i m)) : ∀ e, e < i → ∀ l, ef (c.set i m) e l = ef c e l := by
  intro e
  induction e using Nat.strongRecOn with
  | ind e ih =>
    intro he l
    have hget : (c.set i m)[e]? = c[e]? := List.getElem?_set_ne (by omega)
    cases hm : c[e]? with
    | none =>
      have h1 : ef c e l = (l, 0) := by
        show (match c[e]? with | none => (l, 0) | some m => repE (efD c e) m.2.2 (oft m) (l, 0)) = _
        rw [hm]
      have h2 : ef (c.set i m) e l = (l, 0) := by
        show (match (c.set i m)[e]? with | none => (l, 0) | some m' => repE (efD (c.set i m) e) m'.2.2 (oft m') (l, 0)) = _
        rw [hget, hm]
      rw [h1, h2]
    | some w =>
      rw [ef_eq hc hm, ef_eq hc' (hget.trans hm)]
      exact repE_c (fun k hk1 hk2 l => ih (k - 8) (by have := (hc.2 e w hm).2.2.2.2.2 k hk1; omega) (by have := (hc.2 e w hm).2.2.2.2.2 k hk1; omega) l) _ _
theorem okC_set {c : List Mac} (hc : okC c) {i : Nat} {m : Mac} (hm : okM i m) : okC (c.set i m) := by
  refine ⟨by rw [List.length_set]; exact hc.1, fun e w hw => ?_⟩
  by_cases h : e = i
  · subst h
    have hl : e < (c.set e m).length := (List.getElem?_eq_some_iff.mp hw).1
    rw [List.length_set] at hl
    rw [List.getElem?_set_self hl] at hw
    cases hw
    exact hm
  · rw [List.getElem?_set_ne (Ne.symm h)] at hw
    exact hc.2 e w hw
/-- Board.change: a macro's kind and timing anew; what those behind it do is forgotten -/
theorem change_ok {N : Nat} (hN : 23300 ≤ N) {S : St} {c : List Mac} (h : KC S c) {i : Nat} {m : Mac} (hm : c[i]? = some m) {kd tm : Nat} (hk : kd ≤ 2) (ht1 : 1 ≤ tm) (ht : tm ≤ 3) : ∃ S', f_X0_change N S (nI i) (nI kd) (nI tm) = some ((), S') ∧ KC S' (c.set i (kd, tm, m.2.2)) ∧ ∀ k, k ≠ 3 → k ≠ 20 + i → S' k = S k := by
  have hi := mac_lt hm
  have h3 := h.1.1
  obtain ⟨m1, m2, m3, m4, m5, m6⟩ := h.1.2 i m hm
  obtain ⟨a1, a2, a3, a4⟩ := h.2.1.2 i m hm
  have hM' : okM i (kd, tm, m.2.2) := ⟨hk, ht1, ht, m4, m5, m6⟩
  have hc' := okC_set h.1 hM'
  have h31 : ∃ S', f_X0_change_31 N S (nI i) (nI kd) (nI tm) i = some ((), S') ∧ KC S' (c.set i (kd, tm, m.2.2)) ∧ ∀ k, k ≠ 3 → k ≠ 20 + i → S' k = S k := by
    obtain ⟨S', b1, b2, b3⟩ := forget_ok hN (st (st S (20 + i) 0 (nI kd)) (20 + i) 1 (nI tm)) (i := i) (by omega)
    refine ⟨S', by rw [f_X0_change_31, bnd_e, bnd_e, b1, cal_s], ⟨hc', ⟨?_, fun e w hw => ?_⟩, fun e x he hx => ?_⟩, fun k k1 k2 => by rw [b2 k k1, st_ne k2, st_ne k2]⟩
    · rw [b2 1 (by decide), st_ne (by omega), st_ne (by omega), List.length_set]
      exact h.2.1.1
    · rw [b2 (20 + e) (by omega), b2 (26 + e) (by omega)]
      by_cases hei : e = i
      · subst hei
        rw [List.getElem?_set_self hi] at hw
        cases hw
        rw [st_n (by decide), st_s, st_s, st_n (by decide), st_n (by decide), st_ne (by omega), st_ne (by omega)]
        exact ⟨rfl, rfl, a3, a4⟩
      · rw [List.getElem?_set_ne (Ne.symm hei)] at hw
        have := mac_lt hw
        rw [st_ne (by omega), st_ne (by omega), st_ne (by omega), st_ne (by omega)]
        exact h.2.1.2 e w hw
    · rw [b3]
      by_cases hei : i ≤ e
      · rw [if_pos (by have : i * 7737 ≤ e * 7737 := Nat.mul_le_mul_right _ hei; omega)]
        exact Or.inl rfl
      · rw [if_neg (by omega), st_ne (by omega), st_ne (by omega)]
        rcases h.2.2 e x he hx with h0 | ⟨l, l1, l2, l3, l4⟩
        · exact Or.inl h0
        · exact Or.inr ⟨l, by rw [List.length_set]; exact l1, l2, l3, by rw [l4, ef_set h.1 hc' e (by omega)]⟩
  rw [f_X0_change, macroOf_ok N h hi, cal_s, opt_1, if_pos (by omega), a1, a2]
  by_cases c1 : m.1 = kd
  · by_cases c2 : m.2.1 = tm
    · rw [if_pos (by rw [c1]), if_pos (by rw [c2])]
      have hself : c.set i (kd, tm, m.2.2) = c := by
        rw [← c1, ← c2]
        refine List.ext_getElem? (fun e => ?_)
        by_cases he : e = i
        · subst he; rw [List.getElem?_set_self hi, hm]
        · rw [List.getElem?_set_ne (Ne.symm he)]
      rw [hself]
      exact ⟨S, rfl, h, fun _ _ _ => rfl⟩
    · rw [if_pos (by rw [c1]), if_neg (by rw [n_eq (by omega) (by omega)]; exact c2)]
      exact h31
  · rw [if_neg (by rw [n_eq (by omega) (by omega)]; exact c1)]
    exact h31
/-- the class with other macros -/
theorem RC.cfg {S S' : St} {a : Ab} (h : RC S a) {c : List Mac} (hK : KC S' c) (hlen : c.length = a.1.length) (hf : ∀ k, k < 32 → k ≠ 3 → ¬ (20 ≤ k ∧ k < 23) → S' k = S k) : RC S' (c, a.2) := by
  obtain ⟨k0, k1, k2, k3, k4, k5, k6, k7, k8⟩ := h
  have h0 := hf 0 (by decide) (by decide) (by decide)
  refine ⟨⟨hK.1, k0.2.1, ⟨k0.2.2.1.1, fun q hq => by rw [hlen]; exact k0.2.2.1.2 q hq⟩, k0.2.2.2⟩, hK, h0 ▸ k2, h0 ▸ k3, h0 ▸ k4, h0 ▸ k5, ⟨h0 ▸ k6.1, fun r q hq => ?_⟩, fun j hj => ?_, ?_⟩
  · rw [hf 10 (by decide) (by decide) (by decide), hf 11 (by decide) (by decide) (by decide)]
    exact k6.2 r q hq
  · rw [hf (12 + j) (by omega) (by omega) (by omega), hf (16 + j) (by omega) (by omega) (by omega)]
    exact k7 j hj
  · rw [hf 4 (by decide) (by decide) (by decide)]
    exact k8
theorem RM.cfg {S S' : St} {a : Ab} (h : RM S a) {c : List Mac} (hc : okC c) (hM : CfM S' c) (hk : Mks S' c) (hlen : c.length = a.1.length) (hf : ∀ k, k = 33 ∨ k = 34 ∨ k = 35 ∨ k = 52 ∨ k = 53 → S' k = S k) (h0 : ∀ j, j = 0 ∨ j = 1 ∨ j = 6 ∨ j = 7 ∨ j = 32 → S' 32 j = S 32 j) : RM S' (c, a.2) := by
  obtain ⟨k0, k1, k2, k3, k4, k5, k6, k7, k8⟩ := h
  refine ⟨⟨hc, k0.2.1, ⟨k0.2.2.1.1, fun q hq => by rw [hlen]; exact k0.2.2.1.2 q hq⟩, k0.2.2.2⟩, hM, (h0 7 (by omega)).trans k2, (h0 6 (by omega)).trans k3, (h0 1 (by omega)).trans k4, (h0 0 (by omega)).trans k5, ⟨(h0 32 (by omega)).trans k6.1, fun r q hq => ?_⟩, fun j hj => ?_, hk⟩
  · rw [hf 52 (by omega), hf 53 (by omega)]
    exact k6.2 r q hq
  · rw [hf 33 (by omega), hf 34 (by omega), hf 35 (by omega)]
    exact k7 j hj
theorem b_times {N : Nat} (hN : 23300 ≤ N) (x y : Int32) : Both (fun S => f_X6_times N S x y) (fun S => f_X7_times N S x y) := by
  refine Both.of fun a ha => ?_
  rcases is_mac a.1 ha.1 x with hx | ⟨i, m, rfl, hm⟩
  · refine ⟨-1, a, fun S hC => ⟨S, ?_, hC, frC.rf S⟩, fun S hM => ⟨S, ?_, hM, frM.rf S⟩⟩
    · show f_X6_times N S x y = _
      rw [f_X6_times, macroOf_no N hC.2.1 x hx, cal_s, opt_0]
    · show f_X7_times N S x y = _
      rw [f_X7_times, isMacro_no N hM.2.1 x hx, cal_s, if_pos nI_0]
  · have hi := mac_lt hm
    have h3 := ha.1.1
    obtain ⟨m1, m2, m3, m4, m5, m6⟩ := ha.1.2 i m hm
    have hin : inb (nI i) 3 = true := (inb_i (by omega)).mpr (by omega)
    by_cases hy : y < nI 1 ∨ nI 3 < y
    · refine ⟨-2, a, fun S hC => ⟨S, ?_, hC, frC.rf S⟩, fun S hM => ⟨S, ?_, hM, frM.rf S⟩⟩
      · show f_X6_times N S (nI i) y = _
        rw [f_X6_times, macroOf_ok N hC.2.1 hi, cal_s, opt_1, if_pos (by omega)]
        by_cases c1 : y < nI 1
        · rw [if_pos c1]
        · rw [if_neg c1, if_neg (i_lt_nle (hy.resolve_left c1))]
      · show f_X7_times N S (nI i) y = _
        rw [f_X7_times, isMacro_ok N ha.1 hM.2.1 hi, cal_s, if_neg (by decide), within_no N S hy, cal_s, if_pos nI_0]
    · obtain ⟨t, t1, t2, rfl⟩ := rng (lo := 1) (hi := 3) (by decide) (by decide) (fun z => hy (Or.inl z)) (fun z => hy (Or.inr z))
      have hc' := okC_set ha.1 (i := i) (m := (m.1, t, m.2.2)) ⟨m1, t1, t2, m4, m5, m6⟩
      refine ⟨nI m.2.1, (a.1.set i (m.1, t, m.2.2), a.2), fun S hC => ?_, fun S hM => ?_⟩
      · obtain ⟨S', b1, b2, b3⟩ := change_ok hN hC.2.1 hm m1 t1 t2
        refine ⟨S', ?_, hC.cfg b2 List.length_set (fun k _ k1 k2 => b3 k k1 (by omega)), fun k hk => b3 k (by omega) (by omega)⟩
        show f_X6_times N S (nI i) (nI t) = _
        rw [f_X6_times, macroOf_ok N hC.2.1 hi, cal_s, opt_1, if_pos (by omega), if_neg (nI_nlt t1 (by omega)), if_pos (nI_le t2 (by omega)), bnd_e, (hC.mac hm).2.1, (hC.mac hm).1, b1, cal_s]
      · refine ⟨st (st S 37 i (nI t)) 32 27 (nI 0), ?_, hM.cfg (S' := st (st S 37 i (nI t)) 32 27 (nI 0)) hc' ⟨?_, fun e w hw => ?_⟩ ⟨?_, Or.inl st_s⟩ List.length_set (fun k hk => by rw [st_ne (by omega), st_ne (by omega)]) (fun j hj => by rw [st_n (by omega), st_ne (by decide)]), (frM.st (by decide) S _ _).tr (frM.st (by decide) _ _ _)⟩
        · show f_X7_times N S (nI i) (nI t) = _
          rw [f_X7_times, isMacro_ok N ha.1 hM.2.1 hi, cal_s, if_neg (by decide), within_in N S t1 t2 (by decide), cal_s, if_neg (by decide), if_pos hin, bnd_e, if_pos hin, bnd_e, bnd_e, n_cl (by omega), (hM.mac hm).2.1]
        · rw [st_n (by decide), st_ne (by decide), List.length_set]; exact hM.2.1.1
        · have q36 : st (st S 37 i (nI t)) 32 27 (nI 0) 36 = S 36 := by rw [st_ne (by decide), st_ne (by decide)]
          have q37 : st (st S 37 i (nI t)) 32 27 (nI 0) 37 = st S 37 i (nI t) 37 := st_ne (by decide)
          have q38 : st (st S 37 i (nI t)) 32 27 (nI 0) 38 = S 38 := by rw [st_ne (by decide), st_ne (by decide)]
          have q39 : st (st S 37 i (nI t)) 32 27 (nI 0) 39 = S 39 := by rw [st_ne (by decide), st_ne (by decide)]
          rw [q36, q37, q38, q39]
          by_cases he : e = i
          · subst he
            rw [List.getElem?_set_self hi] at hw
            cases hw
            rw [st_s]
            exact ⟨(hM.mac hm).1, rfl, (hM.mac hm).2.2.1, (hM.mac hm).2.2.2⟩
          · rw [List.getElem?_set_ne (Ne.symm he)] at hw
            rw [st_n he]
            exact hM.2.1.2 e w hw
        · unfold mkP
          rw [st_n (by decide), st_ne (by decide), st_ne (by decide), st_ne (by decide)]
          exact hM.2.2.2.2.2.2.2.2.1
