/-! like, still -/
theorem fr3.tr {S T U : St} (h : fr3 S T) (g : fr3 T U) : fr3 S U := fun k hk => (g k hk).trans (h k hk)
theorem fr3.rf (S : St) : fr3 S S := fun _ _ => rfl
theorem cnt_1 {P : Ln → Bool} {f : Nat → Ln} {x d acc : Nat} (h : P (f x) = true) : acc + ((List.range' x (d + 1)).map f).countP P = acc + 1 + ((List.range' (x + 1) d).map f).countP P := by
  rw [List.range'_succ, List.map_cons, List.countP_cons, if_pos h]; omega
theorem cnt_0 {P : Ln → Bool} {f : Nat → Ln} {x d acc : Nat} (h : ¬ P (f x) = true) : acc + ((List.range' x (d + 1)).map f).countP P = acc + ((List.range' (x + 1) d).map f).countP P := by
  rw [List.range'_succ, List.map_cons, List.countP_cons, if_neg h]; omega
theorem cnt_eq (P : Ln → Bool) : ((List.range' 0 7737).map lc).countP P = ((List.range' 0 7737).map lr).countP P := by
  rw [← List.range_eq_range']
  exact List.Perm.countP_eq P lines_perm
theorem like_c {N : Nat} (hN : 8 ≤ N) {c : List Mac} {k1 k2 : Nat} (h1 : k1 < 8 + c.length) (h2 : k2 < 8 + c.length) : ∀ (d x g acc : Nat) (S : St), x + d = 7737 → d < g → KC S c → ∃ S', f_X6_like_29 N g S (nI k1) (nI k2) (nI acc) (nI x) = some (nI (acc + ((List.range' x d).map lc).countP (fun l => decide (go c k1 l = go c k2 l))), S') ∧ KC S' c ∧ fr3 S S' := by
  intro d
  induction d with
  | zero =>
    intro x g acc S hx hg hK
    obtain ⟨g, rfl⟩ : ∃ e, g = e + 1 := ⟨g - 1, by omega⟩
    exact ⟨S, by rw [f_X6_like_29, if_pos (nI_le (by omega) (by omega))]; rfl, hK, fr3.rf S⟩
  | succ d ih =>
    intro x g acc S hx hg hK
    obtain ⟨g, rfl⟩ : ∃ e, g = e + 1 := ⟨g - 1, by omega⟩
    obtain ⟨l1, l2⟩ := lc_ok (show x < 7737 by omega)
    obtain ⟨S1, b1, b2, b3⟩ := lineAfter_ok hN hK l1 h1
    obtain ⟨S2, d1, d2, d3⟩ := lineAfter_ok hN b2 l1 h2
    rw [l2] at b1 d1
    have g1 := go_ok hK.1 h1 l1
    have g2 := go_ok hK.1 h2 l1
    have n1 := cn_lt g1
    have n2 := cn_lt g2
    rw [f_X6_like_29, if_neg (nI_ge (by omega) (by omega)), b1, cal_s, d1, cal_s, bnd_e, bnd_e, bnd_e, n_add, n_add]
    by_cases e : go c k1 (lc x) = go c k2 (lc x)
    · obtain ⟨S', q1, q2, q3⟩ := ih (x + 1) g (acc + 1) S2 (by omega) (by omega) d2
      refine ⟨S', ?_, q2, (b3.tr d3).tr q3⟩
      rw [if_pos (by rw [e]), q1, cnt_1 (by rw [decide_eq_true_iff]; exact e)]
    · obtain ⟨S', q1, q2, q3⟩ := ih (x + 1) g acc S2 (by omega) (by omega) d2
      refine ⟨S', ?_, q2, (b3.tr d3).tr q3⟩
      rw [if_neg (by rw [n_eq (by omega) (by omega)]; exact fun z => e (cn_inj g1 g2 z)), q1, cnt_0 (by rw [decide_eq_true_iff]; exact e)]
theorem like_m {N : Nat} {c : List Mac} (hc : okC c) {k1 k2 : Nat} (h1 : k1 < 8 + c.length) (h2 : k2 < 8 + c.length) {S : St} (hT : mkT S c (8 + c.length)) : ∀ (d x g acc : Nat), x + d = 7737 → d < g → f_X7_like_27 N g S (nI k1) (nI k2) (nI acc) (nI x) = some (nI (acc + ((List.range' x d).map lr).countP (fun l => decide (go c k1 l = go c k2 l))), S) := by
  have h3 := hc.1
  intro d
  induction d with
  | zero =>
    intro x g acc hx hg
    obtain ⟨g, rfl⟩ : ∃ e, g = e + 1 := ⟨g - 1, by omega⟩
    rw [f_X7_like_27, if_pos (nI_le (by omega) (by omega))]; rfl
  | succ d ih =>
    intro x g acc hx hg
    obtain ⟨g, rfl⟩ : ∃ e, g = e + 1 := ⟨g - 1, by omega⟩
    obtain ⟨l1, l2⟩ := lr_ok (show x < 7737 by omega)
    have g1 := go_ok hc h1 l1
    have g2 := go_ok hc h2 l1
    have n1 := rn_lt g1
    have n2 := rn_lt g2
    have e1 := hT k1 _ h1 l1
    have e2 := hT k2 _ h2 l1
    rw [l2] at e1 e2
    rw [f_X7_like_27, if_neg (nI_ge (by omega) (by omega)), n_mul, n_mul, n_add, n_add, if_pos ((inb_i (by omega)).mpr (by omega)), if_pos ((inb_i (by omega)).mpr (by omega)), n_cl (by omega), n_cl (by omega), e1, e2, bnd_e, bnd_e, bnd_e, bnd_e, n_add, n_add, n_add]
    by_cases e : go c k1 (lr x) = go c k2 (lr x)
    · rw [if_pos (by rw [e]), ih (x + 1) g (acc + 1) (by omega) (by omega), cnt_1 (by rw [decide_eq_true_iff]; exact e)]
    · rw [if_neg (by rw [n_eq (by omega) (by omega)]; exact fun z => e (rn_inj g1 g2 z)), Nat.add_zero, ih (x + 1) g acc (by omega) (by omega), cnt_0 (by rw [decide_eq_true_iff]; exact e)]
theorem b_like {N : Nat} (hN : 7740 ≤ N) (x y : Int32) : Both (fun S => f_X6_like N S x y) (fun S => f_X7_like N S x y) := by
  refine Both.of fun a ha => ?_
  rcases is_key a.1 ha.1 x with hx | ⟨k1, rfl, h1⟩
  · refine ⟨-1, a, fun S hC => ⟨S, ?_, hC, frC.rf S⟩, fun S hM => ⟨S, ?_, hM, frM.rf S⟩⟩
    · show f_X6_like N S x y = _
      rw [f_X6_like, (isKey_no N hx).1 S hC.2.1.2.1, cal_s, if_pos nI_0]
    · show f_X7_like N S x y = _
      rw [f_X7_like, (isKey_no N hx).2 S hM.2.1, cal_s, if_pos nI_0]
  rcases is_key a.1 ha.1 y with hy | ⟨k2, rfl, h2⟩
  · refine ⟨-1, a, fun S hC => ⟨S, ?_, hC, frC.rf S⟩, fun S hM => ⟨S, ?_, hM, frM.rf S⟩⟩
    · show f_X6_like N S (nI k1) y = _
      rw [f_X6_like, (isKey_ok N ha.1 h1).1 S hC.2.1.2.1, cal_s, if_neg (by decide), (isKey_no N hy).1 S hC.2.1.2.1, cal_s, if_pos nI_0]
    · show f_X7_like N S (nI k1) y = _
      rw [f_X7_like, (isKey_ok N ha.1 h1).2 S hM.2.1, cal_s, if_neg (by decide), (isKey_no N hy).2 S hM.2.1, cal_s, if_pos nI_0]
  refine ⟨nI (0 + ((List.range' 0 7737).map lc).countP (fun l => decide (go a.1 k1 l = go a.1 k2 l))), a, fun S hC => ?_, fun S hM => ?_⟩
  · obtain ⟨S', b1, b2, b3⟩ := like_c (N := N) (by omega) h1 h2 7737 0 N 0 S (by omega) (by omega) hC.2.1
    refine ⟨S', ?_, hC.of3 b2 b3, b3.C⟩
    show f_X6_like N S (nI k1) (nI k2) = _
    rw [f_X6_like, (isKey_ok N ha.1 h1).1 S hC.2.1.2.1, cal_s, if_neg (by decide), (isKey_ok N ha.1 h2).1 S hC.2.1.2.1, cal_s, if_neg (by decide), bnd_e, bnd_e, b1]
  · obtain ⟨S', b1, b2, b3, b4⟩ := findMakes_ok hN hM
    refine ⟨S', ?_, b2, b3⟩
    show f_X7_like N S (nI k1) (nI k2) = _
    rw [f_X7_like, (isKey_ok N ha.1 h1).2 S hM.2.1, cal_s, if_neg (by decide), (isKey_ok N ha.1 h2).2 S hM.2.1, cal_s, if_neg (by decide), b1, cal_s, bnd_e, bnd_e, like_m ha.1 h1 h2 b4 7737 0 N 0 (by omega) (by omega), cnt_eq]
theorem still_c {N : Nat} (hN : 8 ≤ N) {c : List Mac} {k1 : Nat} (h1 : k1 < 8 + c.length) : ∀ (d x g acc : Nat) (S : St), x + d = 7737 → d < g → KC S c → ∃ S', f_X6_still_17 N g S (nI k1) (nI acc) (nI x) = some (nI (acc + ((List.range' x d).map lc).countP (fun l => decide (go c k1 l = l))), S') ∧ KC S' c ∧ fr3 S S' := by
  intro d
  induction d with
  | zero =>
    intro x g acc S hx hg hK
    obtain ⟨g, rfl⟩ : ∃ e, g = e + 1 := ⟨g - 1, by omega⟩
    exact ⟨S, by rw [f_X6_still_17, if_pos (nI_le (by omega) (by omega))]; rfl, hK, fr3.rf S⟩
  | succ d ih =>
    intro x g acc S hx hg hK
    obtain ⟨g, rfl⟩ : ∃ e, g = e + 1 := ⟨g - 1, by omega⟩
    obtain ⟨l1, l2⟩ := lc_ok (show x < 7737 by omega)
    obtain ⟨S1, b1, b2, b3⟩ := lineAfter_ok hN hK l1 h1
    rw [l2] at b1
    have g1 := go_ok hK.1 h1 l1
    have n1 := cn_lt g1
    rw [f_X6_still_17, if_neg (nI_ge (by omega) (by omega)), b1, cal_s, bnd_e, bnd_e, bnd_e, n_add, n_add]
    by_cases e : go c k1 (lc x) = lc x
    · obtain ⟨S', q1, q2, q3⟩ := ih (x + 1) g (acc + 1) S1 (by omega) (by omega) b2
      refine ⟨S', ?_, q2, b3.tr q3⟩
      rw [if_pos (by rw [e, l2]), q1, cnt_1 (by rw [decide_eq_true_iff]; exact e)]
    · obtain ⟨S', q1, q2, q3⟩ := ih (x + 1) g acc S1 (by omega) (by omega) b2
      refine ⟨S', ?_, q2, b3.tr q3⟩
      rw [if_neg (by rw [n_eq (by omega) (by omega)]; exact fun z => e (cn_inj g1 l1 (by rw [z, l2]))), q1, cnt_0 (by rw [decide_eq_true_iff]; exact e)]
theorem still_m {N : Nat} {c : List Mac} (hc : okC c) {k1 : Nat} (h1 : k1 < 8 + c.length) {S : St} (hT : mkT S c (8 + c.length)) : ∀ (d x g acc : Nat), x + d = 7737 → d < g → f_X7_still_18 N g S (nI k1) (nI acc) (nI x) = some (nI (acc + ((List.range' x d).map lr).countP (fun l => decide (go c k1 l = l))), S) := by
  have h3 := hc.1
  intro d
  induction d with
  | zero =>
    intro x g acc hx hg
    obtain ⟨g, rfl⟩ : ∃ e, g = e + 1 := ⟨g - 1, by omega⟩
    rw [f_X7_still_18, if_pos (nI_le (by omega) (by omega))]; rfl
  | succ d ih =>
    intro x g acc hx hg
    obtain ⟨g, rfl⟩ : ∃ e, g = e + 1 := ⟨g - 1, by omega⟩
    obtain ⟨l1, l2⟩ := lr_ok (show x < 7737 by omega)
    have g1 := go_ok hc h1 l1
    have n1 := rn_lt g1
    have e1 := hT k1 _ h1 l1
    rw [l2] at e1
    rw [f_X7_still_18, if_neg (nI_ge (by omega) (by omega)), n_mul, n_add, if_pos ((inb_i (by omega)).mpr (by omega)), n_cl (by omega), e1, bnd_e, bnd_e, bnd_e, bnd_e, n_add, n_add, n_add]
    by_cases e : go c k1 (lr x) = lr x
    · rw [if_pos (by rw [e, l2]), ih (x + 1) g (acc + 1) (by omega) (by omega), cnt_1 (by rw [decide_eq_true_iff]; exact e)]
    · rw [if_neg (by rw [n_eq (by omega) (by omega)]; exact fun z => e (rn_inj g1 l1 (by rw [z, l2]))), Nat.add_zero, ih (x + 1) g acc (by omega) (by omega), cnt_0 (by rw [decide_eq_true_iff]; exact e)]
theorem b_still {N : Nat} (hN : 7740 ≤ N) (x : Int32) : Both (fun S => f_X6_still N S x) (fun S => f_X7_still N S x) := by
  refine Both.of fun a ha => ?_
  rcases is_key a.1 ha.1 x with hx | ⟨k1, rfl, h1⟩
  · refine ⟨-1, a, fun S hC => ⟨S, ?_, hC, frC.rf S⟩, fun S hM => ⟨S, ?_, hM, frM.rf S⟩⟩
    · show f_X6_still N S x = _
      rw [f_X6_still, (isKey_no N hx).1 S hC.2.1.2.1, cal_s, if_pos nI_0]
    · show f_X7_still N S x = _
      rw [f_X7_still, (isKey_no N hx).2 S hM.2.1, cal_s, if_pos nI_0]
  refine ⟨nI (0 + ((List.range' 0 7737).map lc).countP (fun l => decide (go a.1 k1 l = l))), a, fun S hC => ?_, fun S hM => ?_⟩
  · obtain ⟨S', b1, b2, b3⟩ := still_c (N := N) (by omega) h1 7737 0 N 0 S (by omega) (by omega) hC.2.1
    refine ⟨S', ?_, hC.of3 b2 b3, b3.C⟩
    show f_X6_still N S (nI k1) = _
    rw [f_X6_still, (isKey_ok N ha.1 h1).1 S hC.2.1.2.1, cal_s, if_neg (by decide), bnd_e, bnd_e, b1]
  · obtain ⟨S', b1, b2, b3, b4⟩ := findMakes_ok hN hM
    refine ⟨S', ?_, b2, b3⟩
    show f_X7_still N S (nI k1) = _
    rw [f_X7_still, (isKey_ok N ha.1 h1).2 S hM.2.1, cal_s, if_neg (by decide), b1, cal_s, bnd_e, bnd_e, still_m ha.1 h1 b4 7737 0 N 0 (by omega) (by omega), cnt_eq]
