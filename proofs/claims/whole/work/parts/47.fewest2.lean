/-! fewest -/
section
variable {N : Nat} {c : List Mac} {G : Ln → Bool}
theorem far_D (hc : okC c) {S : St} (hS : ∀ m, okL m → S 50 (rn m) = enF (Fa c G 7737 m)) {m : Ln} (hm : okL m) {v : Nat} (hv : v ≤ 7737) : S 50 (rn m) = nI v ↔ Dt c G m = v := by
  rw [hS m hm]
  cases h : Fa c G 7737 m with
  | none =>
    rw [Dt_n h]
    exact ⟨fun z => absurd z.symm (n_9 (by omega)), fun z => by omega⟩
  | some z =>
    rw [Dt_s h]
    have := Fa_lt hc hm h
    show nI z = nI v ↔ _
    rw [n_eq (by omega) (by omega)]
theorem walk_180 (hc : okC c) (k170 : St → Int32 → Int32 → Int32 → Int32 → Option (Int32 × St)) {S : St} (hT : mkT S c (8 + c.length)) (hS : ∀ m, okL m → S 50 (rn m) = enF (Fa c G 7737 m)) {l : Ln} (hl : okL l) (h0 : Dt c G l ≠ 0) (h1 : Dt c G l ≤ 7736) (x5 x10 : Int32) : ∀ (d k g : Nat), k + d = nk c (Dt c G) l → d < g → f_X7_fewest_180 N k170 g S x5 (nI (rn l)) (nI k) x10 = k170 S x5 (nI (rn (go c (nk c (Dt c G) l) l))) (nI (nk c (Dt c G) l)) (x10 + nI 1) := by
  have h3 := hc.1
  obtain ⟨n1, n2, n3⟩ := nk_ok (Dt_x (c := c) (G := G) (l := l) h0 (by omega))
  have hrl := rn_lt hl
  have hDl : S 50 (rn l) = nI (Dt c G l) := (far_D hc hS hl (by omega)).mpr rfl
  intro d
  induction d with
  | zero =>
    intro k g hk hg
    obtain ⟨g, rfl⟩ : ∃ e, g = e + 1 := ⟨g - 1, by omega⟩
    have hk : k = nk c (Dt c G) l := by omega
    subst hk
    have hgo := go_ok hc n2 hl
    have hrg := rn_lt hgo
    have hin : inb (nI (7737 * nk c (Dt c G) l + rn l)) 85107 = true := (inb_i (by omega)).mpr (by omega)
    rw [f_X7_fewest_180, n_mul, n_add, if_pos hin, n_cl (a := 7737 * nk c (Dt c G) l + rn l) (by omega), hT _ l n2 hl, if_pos ((inb_i (by omega)).mpr hrg), if_pos ((inb_i (by omega)).mpr hrl), n_cl (a := rn (go c (nk c (Dt c G) l) l)) (by omega), n_cl (a := rn l) (by omega), hDl, n_sub (by omega), if_pos ((far_D hc hS hgo (by omega)).mpr (by omega)), if_pos hin, bnd_e, bnd_e]
  | succ d ih =>
    intro k g hk hg
    obtain ⟨g, rfl⟩ : ∃ e, g = e + 1 := ⟨g - 1, by omega⟩
    have hgo := go_ok hc (k := k) (by omega) hl
    have hrg := rn_lt hgo
    have hin : inb (nI (7737 * k + rn l)) 85107 = true := (inb_i (by omega)).mpr (by omega)
    have hne := n3 k (by omega)
    rw [f_X7_fewest_180, n_mul, n_add, if_pos hin, n_cl (a := 7737 * k + rn l) (by omega), hT k l (by omega) hl, if_pos ((inb_i (by omega)).mpr hrg), if_pos ((inb_i (by omega)).mpr hrl), n_cl (a := rn (go c k l)) (by omega), n_cl (a := rn l) (by omega), hDl, n_sub (by omega), if_neg (fun z => hne (by have := (far_D hc hS hgo (by omega)).mp z; omega)), bnd_e, n_add, ih (k + 1) g (by omega) (by omega)]
theorem walk_170 (hN : 20 ≤ N) (hc : okC c) {S : St} (hT : mkT S c (8 + c.length)) (hS : ∀ m, okL m → S 50 (rn m) = enF (Fa c G 7737 m)) : ∀ (j m : Nat) (l : Ln) (t g : Nat) (x9 : Int32) (k : Nat), okL l → Dt c G l = m → m ≤ 7736 → (pth c (Dt c G) m l)[j]? = some k → t + j < 100000 → j + 1 < g → f_X7_fewest_170 N g S (nI (t + j)) (nI (rn l)) x9 (nI t) = some (nI k, S) := by
  have h3 := hc.1
  intro j
  induction j with
  | zero =>
    intro m l t g x9 k hl hD hm hp ht hg
    obtain ⟨g, rfl⟩ : ∃ e, g = e + 1 := ⟨g - 1, by omega⟩
    obtain ⟨g, rfl⟩ : ∃ e, g = e + 1 := ⟨g - 1, by omega⟩
    cases m with
    | zero => cases hp
    | succ m =>
      have hk : nk c (Dt c G) l = k := Option.some.inj hp
      have n2 := (nk_ok (Dt_x (c := c) (G := G) (l := l) (by omega) (by omega))).2.1
      rw [f_X7_fewest_170, if_neg (nI_nlt (by omega) (by omega)), bnd_e, walk_180 hc _ hT hS hl (by omega) (by omega) _ _ (nk c (Dt c G) l) 0 N (by omega) (by omega), n_add, f_X7_fewest_170, if_pos (nI_lt (by omega) (by omega)), hk]
  | succ j ih =>
    intro m l t g x9 k hl hD hm hp ht hg
    obtain ⟨g, rfl⟩ : ∃ e, g = e + 1 := ⟨g - 1, by omega⟩
    cases m with
    | zero => cases hp
    | succ m =>
      obtain ⟨n1, n2, n3⟩ := nk_ok (Dt_x (c := c) (G := G) (l := l) (by omega) (by omega))
      rw [f_X7_fewest_170, if_neg (nI_nlt (by omega) (by omega)), bnd_e, walk_180 hc _ hT hS hl (by omega) (by omega) _ _ (nk c (Dt c G) l) 0 N (by omega) (by omega), n_add, show t + (j + 1) = t + 1 + j by omega, ih m _ (t + 1) g _ k (go_ok hc n2 hl) (by omega) (by omega) hp (by omega) (by omega)]
end
theorem told_l {N : Nat} {S : St} {j : Nat} {f : Nat → Nat} {i n : Nat} (hn : n ≤ 5) (hin : i + n ≤ 60) (hf : ∀ p, p < n → f p < 4) (hS : ∀ p, p < n → S (16 + j) (i + p) = nI (f p)) : ∀ (d p g : Nat), p + d = n → d < g → f_X6_lineTold_5 N g S j (nI i) (nI n) (nI (vl f p)) (nI p) = some (nI (Fn n + 0 * 4 ^ n + vl f n), S) := by
  intro d
  induction d with
  | zero =>
    intro p g hp hg
    obtain ⟨g, rfl⟩ : ∃ e, g = e + 1 := ⟨g - 1, by omega⟩
    have hp : p = n := by omega
    subst hp
    have hv := vl_lt hf p (Nat.le_refl _)
    have := p4_le hn
    rw [f_X6_lineTold_5, if_pos (nI_le (by omega) (by omega)), of_ok N S hn (by omega) (by omega), cal_s]
  | succ d ih =>
    intro p g hp hg
    obtain ⟨g, rfl⟩ : ∃ e, g = e + 1 := ⟨g - 1, by omega⟩
    rw [f_X6_lineTold_5, if_neg (nI_ge (by omega) (by omega)), n_add, if_pos ((inb_i (by omega)).mpr (by omega)), n_cl (by omega), hS p (by omega), bnd_e, bnd_e, n_mul, n_add, n_add]
    exact ih (p + 1) g (by omega) (by omega)
theorem few_look {N : Nat} {S : St} {f : Nat → Int32} {x0 i n : Nat} (hx : x0 + n ≤ 240) (hf : ∀ q, q < n → S 35 (x0 + q) = f (i + q)) (w : Int32) : ∀ (d p g : Nat), p + d = n → d < g → (allW f (nI 3) d (i + p) = false → f_X7_fewest_79 N g S (nI n) w (nI x0) (nI p) = some ((-2 : Int32), S)) ∧ (allW f (nI 3) d (i + p) = true → f_X7_fewest_79 N g S (nI n) w (nI x0) (nI p) = f_X7_fewest_79 N 1 S (nI n) w (nI x0) (nI n)) := by
  intro d
  induction d with
  | zero =>
    intro p g hp hg
    obtain ⟨g, rfl⟩ : ∃ e, g = e + 1 := ⟨g - 1, by omega⟩
    refine ⟨fun h => (by cases h), fun _ => ?_⟩
    rw [f_X7_fewest_79, f_X7_fewest_79, if_pos (nI_le (by omega) (by omega)), if_pos (nI_le (by omega) (by omega))]
  | succ d ih =>
    intro p g hp hg
    obtain ⟨g, rfl⟩ : ∃ e, g = e + 1 := ⟨g - 1, by omega⟩
    have hin : inb (nI (x0 + p)) 240 = true := (inb_i (by omega)).mpr (by omega)
    have hA : ∀ m, allW f m (d + 1) (i + p) = ((!decide (f (i + p) < 0)) && (decide (f (i + p) ≤ m)) && allW f m d (i + (p + 1))) := fun m => rfl
    rw [hA, f_X7_fewest_79, if_neg (nI_ge (by omega) (by omega)), n_add x0 p, if_pos hin, n_cl (by omega), hf p (by omega)]
    by_cases c1 : f (i + p) < 0 ∨ nI 3 < f (i + p)
    · rw [within_no N S (lo := nI 0) c1, cal_s, if_pos nI_0]
      refine ⟨fun _ => rfl, fun h => ?_⟩
      rw [Bool.and_eq_true, Bool.and_eq_true, Bool.not_eq_true', decide_eq_false_iff_not, decide_eq_true_iff] at h
      rcases c1 with c1 | c1
      · exact absurd c1 h.1.1
      · exact absurd h.1.2 (i_lt_nle c1)
    · obtain ⟨k, -, k10, hk⟩ := rng (lo := 0) (hi := 3) (by decide) (by decide) (fun z => c1 (Or.inl z)) (fun z => c1 (Or.inr z))
      rw [hk, within_in N S (Nat.zero_le _) k10 (by decide), cal_s, if_neg (by decide), decide_eq_false (nI_pos (by omega)), decide_eq_true (nI_le k10 (by omega)), bnd_e, n_add]
      exact ih (p + 1) g (by omega) (by omega)
/-- the answer -/
def fewA (c : List Mac) (G : Ln → Bool) (l : Ln) (z : Int32) : Int32 := if Dt c G l = 99999 then -9 else if z = -1 then nI (Dt c G l) else match (pth c (Dt c G) (Dt c G l) l)[z.toNatClampNeg]? with | some k => nI k | none => -9
theorem few_z {z : Int32} (h1 : ¬ z < -1) (h2 : ¬ nI 20 < z) : z = -1 ∨ ∃ j, j ≤ 20 ∧ z = nI j := by
  by_cases h : z < 0
  · left
    have a1 := Int32.le_iff_toInt_le.mp (i_nlt h1)
    have a2 := Int32.lt_iff_toInt_lt.mp h
    have e1 : (-1 : Int32).toInt = -1 := rfl
    have e0 : (0 : Int32).toInt = 0 := rfl
    exact Int32.toInt_inj.mp (by omega)
  · obtain ⟨j, _, j2, rfl⟩ := rng (lo := 0) (hi := 20) (by decide) (by decide) h h2
    exact Or.inr ⟨j, j2, rfl⟩
theorem few_c {N : Nat} (hN : 7740 ≤ N) {c : List Mac} {goal : Int32} {S : St} (hK : KC S c) {l : Ln} (hl : okL l) {z : Int32} (hz : z = -1 ∨ ∃ j, j ≤ 20 ∧ z = nI j) : ∃ S', (cal (f_X4_find N S (nI (cn l)) (nI 0) goal) (fun r20 S18 => if r20 = (-9 : Int32) then some ((-9 : Int32), S18) else if z = (-1 : Int32) then cal (f_X4_stepsTo N S18 r20) (fun r26 S24 => some (r26, S24)) else cal (f_X4_keyTo N S18 r20 z) (fun r23 S21 => some (r23, S21)))) = some (fewA c (hasG goal) l z, S') ∧ KC S' c ∧ frS S S' := by
  have hf := find_ok hN (goal := goal) hK hl
  rcases Dt_b (G := hasG goal) hK.1 hl with hD | hD
  · obtain ⟨r, S', ks, b1, b2, b3, b4, b5, b6⟩ := hf.1 hD
    refine ⟨S', ?_, b5, b6⟩
    have hlen : ks.length = Dt c (hasG goal) l := by
      have := congrArg List.length b4
      rw [pth_len, List.length_reverse] at this
      exact this.symm
    have hcr := cn_lt b2
    have hst : f_X4_stepsTo N S' (nI (cn r)) = some (nI ks.length, S') := by
      rw [f_X4_stepsTo, bnd_e, steps_l ks r 0 N b2 b3 (by omega) (by omega), Nat.zero_add]
    rw [b1, cal_s, if_neg (n_9 (a := cn r) (by omega)), hst, cal_s]
    unfold fewA
    rw [if_neg (show ¬ Dt c (hasG goal) l = 99999 by omega), b4, ← hlen]
    rcases hz with rfl | ⟨j, hj, rfl⟩
    · rw [if_pos rfl, if_pos rfl]
    · have hne : ¬ nI j = (-1 : Int32) := n_neg 1 j (by decide) (by decide) (by omega)
      rw [if_neg hne, if_neg hne, f_X4_keyTo, hst, cal_s, bnd_e, keyTo_l (by omega) ks r N b2 b3 (by omega) (by omega), cal_s, n_cl (by omega)]
      cases ks.reverse[j]? <;> rfl
  · obtain ⟨S', b1, b2, b3⟩ := hf.2 hD
    refine ⟨S', ?_, b2, b3⟩
    rw [b1, cal_s, if_pos rfl]
    unfold fewA
    rw [if_pos hD]
theorem few_m {N : Nat} (hN : 7740 ≤ N) {a : Ab} {S : St} (hM : RM S a) {f : Nat → Nat} {x0 n : Nat} (hn : n ≤ 5) (hx : x0 + n ≤ 240) (hf : ∀ p, p < n → f p < 4) (hS : ∀ S', RM S' a → ∀ q, q < n → S' 35 (x0 + q) = nI (f q)) {z : Int32} (hz : z = -1 ∨ ∃ j, j ≤ 20 ∧ z = nI j) : ∃ S', f_X7_fewest_79 N 1 S (nI n) z (nI x0) (nI n) = some (fewA a.1 (hasG (nI (Fn n + 0 * 4 ^ n + vl f n))) a.2.1 z, S') ∧ RM S' a ∧ frM S S' := by
  have hc := hM.1.1
  have hl := hM.1.2.1
  obtain ⟨S1, b1, b2, b3, b4⟩ := findMakes_ok hN hM
  have hS1 := hS S1 b2
  obtain ⟨S2, d1, d2, d3, d4⟩ := far_0 (N := N) (by omega) hn hx hf a.1 7737 0 N S1 (by omega) (by omega) hS1
  have hT2 : mkT S2 a.1 (8 + a.1.length) := b4.Q (d2.1 49 (by decide) (by decide) (by decide) (by decide))
  obtain ⟨S3, e1, e2, e3⟩ := far_46 (N := N) (G := hasG (nI (Fn n + 0 * 4 ^ n + vl f n))) hN hc 7737 0 N S2 (by omega) (by omega) (by omega) (b2.2.1.F d2) hT2 (fun m hm => d3 m hm (Nat.zero_le _))
  have hM3 := b2.F (d2.tr e2.F)
  have hT3 : mkT S3 a.1 (8 + a.1.length) := hT2.Q (e2 49 (by decide) (by decide))
  refine ⟨S3, ?_, hM3, b3.tr (d2.tr e2.F).M⟩
  have hr := rn_lt hl
  have hin : inb (nI (rn a.2.1)) 7737 = true := (inb_i (by omega)).mpr hr
  rw [f_X7_fewest_79, if_pos (nI_le (by omega) (by omega)), b1, cal_s, f_X7_findFar, bnd_e, d1]
  have e1 : f_X7_findFar_46 N N S2 (nI 1) (nI 1) = some ((), S3) := e1
  rw [e1, cal_s, hM3.2.2.1, if_pos hin, if_pos hin, n_cl (by omega), bnd_e, bnd_e, bnd_e]
  unfold fewA
  rcases Dt_b (G := hasG (nI (Fn n + 0 * 4 ^ n + vl f n))) hc hl with hD | hD
  · rw [if_neg (show ¬ Dt a.1 (hasG (nI (Fn n + 0 * 4 ^ n + vl f n))) a.2.1 = 99999 by omega), (far_D hc e3 hl (v := Dt a.1 (hasG (nI (Fn n + 0 * 4 ^ n + vl f n))) a.2.1) (by omega)).mpr rfl]
    rcases hz with rfl | ⟨j, hj, rfl⟩
    · rw [if_pos rfl, if_pos rfl]
    · have hne : ¬ nI j = (-1 : Int32) := n_neg 1 j (by decide) (by decide) (by omega)
      rw [if_neg hne, if_neg hne, n_cl (by omega)]
      rcases Nat.lt_or_ge j (Dt a.1 (hasG (nI (Fn n + 0 * 4 ^ n + vl f n))) a.2.1) with w | w
      · have hp := List.getElem?_eq_getElem (l := pth a.1 (Dt a.1 (hasG (nI (Fn n + 0 * 4 ^ n + vl f n)))) (Dt a.1 (hasG (nI (Fn n + 0 * 4 ^ n + vl f n))) a.2.1) a.2.1) (i := j) (by rw [pth_len]; exact w)
        have hw := walk_170 (N := N) (by omega) hc hT3 e3 j _ a.2.1 0 N (nI 0) _ hl rfl hD hp (by omega) (by omega)
        rw [Nat.zero_add] at hw
        rw [if_pos (nI_lt w (by omega)), hw, hp]
      · rw [if_neg (nI_nlt w (by omega)), List.getElem?_eq_none (by rw [pth_len]; exact w)]
  · have h9 : S3 50 (rn a.2.1) = -9 := by
      rw [e3 _ hl]
      cases h : Fa a.1 (hasG (nI (Fn n + 0 * 4 ^ n + vl f n))) 7737 a.2.1 with
      | none => rfl
      | some m => rw [Dt_s h] at hD; have := Fa_lt hc hl h; omega
    rw [if_pos hD, h9]
    rcases hz with rfl | ⟨j, hj, rfl⟩
    · rw [if_pos rfl]
    · have hne : ¬ nI j = (-1 : Int32) := n_neg 1 j (by decide) (by decide) (by omega)
      rw [if_neg hne, if_neg]
      intro z
      have := Int32.lt_iff_toInt_lt.mp z
      rw [nI_toInt (by omega)] at this
      have e9 : (-9 : Int32).toInt = -9 := rfl
      omega
theorem b_fewest {N : Nat} (hN : 7740 ≤ N) (x y i n z : Int32) : Both (fun S => f_X6_fewest N S x y i n z) (fun S => f_X7_fewest N S x y i n z) := by
  refine Both.of fun a ha => ?_
  have h3 := ha.1.1
  rcases is_sh x with hx | ⟨j, hj, rfl⟩
  · refine ⟨-1, A5 a (nI 0), fun S hC => ⟨st S 0 10 (nI 0), ?_, hC.flt _, frC.st (by decide) S _ _⟩, fun S hM => ⟨st S 32 0 (nI 0), ?_, hM.flt _, frM.st (by decide) S _ _⟩⟩
    · show f_X6_fewest N S x y i n z = _
      rw [f_X6_fewest, bnd_e, sheetOf_no N _ hx, cal_s, opt_0]
    · show f_X7_fewest N S x y i n z = _
      rw [f_X7_fewest, bnd_e, isSheet_no N _ hx, cal_s, if_pos nI_0]
  have hout : ∀ (h1 : ∀ S, f_X6_fewest N S (nI j) y i n z = some ((-2 : Int32), st S 0 10 (nI 0))) (h2 : ∀ S, f_X7_fewest N S (nI j) y i n z = some ((-2 : Int32), st S 32 0 (nI 0))), ∃ r a', (∀ S, RC S a → ∃ S1, f_X6_fewest N S (nI j) y i n z = some (r, S1) ∧ RC S1 a' ∧ frC S S1) ∧ ∀ S, RM S a → ∃ S2, f_X7_fewest N S (nI j) y i n z = some (r, S2) ∧ RM S2 a' ∧ frM S S2 := fun h1 h2 =>
    ⟨-2, A5 a (nI 0), fun S hC => ⟨_, h1 S, hC.flt _, frC.st (by decide) S _ _⟩, fun S hM => ⟨_, h2 S, hM.flt _, frM.st (by decide) S _ _⟩⟩
  rcases is_ln y with hy | ⟨t, ht, rfl⟩
  · refine hout (fun S => ?_) (fun S => ?_)
    · rw [f_X6_fewest, bnd_e, sheetOf_ok N _ hj, cal_s, opt_1, if_pos hj, (isLane_no N _ hy).1, cal_s, if_pos nI_0]
    · rw [f_X7_fewest, bnd_e, isSheet_ok N _ hj, cal_s, if_neg (by decide), (isLane_no N _ hy).2, cal_s, if_pos nI_0]
  by_cases hn : n < 0 ∨ nI 5 < n
  · refine hout (fun S => ?_) (fun S => ?_)
    · rw [f_X6_fewest, bnd_e, sheetOf_ok N _ hj, cal_s, opt_1, if_pos hj, (isLane_ok N _ ht).1, cal_s, if_neg (by decide)]
      by_cases c : n < 0
      · rw [if_pos c]
      · rw [if_neg c, if_pos (hn.resolve_left c)]
    · rw [f_X7_fewest, bnd_e, isSheet_ok N _ hj, cal_s, if_neg (by decide), (isLane_ok N _ ht).2, cal_s, if_neg (by decide), within_no N _ (lo := nI 0) hn, cal_s, if_pos nI_0]
  obtain ⟨n, -, n5, rfl⟩ := rng (lo := 0) (hi := 5) (by decide) (by decide) (fun w => hn (Or.inl w)) (fun w => hn (Or.inr w))
  by_cases hz : z < -1 ∨ nI 20 < z
  · refine hout (fun S => ?_) (fun S => ?_)
    · rw [f_X6_fewest, bnd_e, sheetOf_ok N _ hj, cal_s, opt_1, if_pos hj, (isLane_ok N _ ht).1, cal_s, if_neg (by decide), if_neg (nI_pos (by omega)), if_neg (nI_nlt n5 (by omega))]
      by_cases c : z < -1
      · rw [if_pos c]
      · rw [if_neg c, if_neg (i_lt_nle (hz.resolve_left c))]
    · rw [f_X7_fewest, bnd_e, isSheet_ok N _ hj, cal_s, if_neg (by decide), (isLane_ok N _ ht).2, cal_s, if_neg (by decide), within_in N _ (Nat.zero_le _) n5 (by decide), cal_s, if_neg (by decide), within_no N _ hz, cal_s, if_pos nI_0]
  have hz1 : ¬ z < -1 := fun w => hz (Or.inl w)
  have hz2 : ¬ nI 20 < z := fun w => hz (Or.inr w)
  have hzz := few_z hz1 hz2
  have hC2 : ∀ S, RC S a → f_X6_fewest N S (nI j) (nI t) i (nI n) z = (fun S9 => if nI (flt (a.2.2.2.2.2.2 j) (nI t) i (nI n)) = (0 : Int32) then cal (f_X5_allWithin N S9 j i (nI n) (nI 3)) (fun r14 S12 => if r14 = (0 : Int32) then some ((-2 : Int32), S12) else cal (f_X6_lineTold N S12 j i (nI n)) (fun r17 S15 => cal (f_X4_find N S15 (S12 0 7) (nI 0) r17) (fun r20 S18 => if r20 = (-9 : Int32) then some ((-9 : Int32), S18) else if z = (-1 : Int32) then cal (f_X4_stepsTo N S18 r20) (fun r26 S24 => some (r26, S24)) else cal (f_X4_keyTo N S18 r20 z) (fun r23 S21 => some (r23, S21))))) else cal (f_X6_meet N S9 (nI (flt (a.2.2.2.2.2.2 j) (nI t) i (nI n)))) (fun r29 S27 => some (r29, S27))) (st S 0 10 (nI 0)) := fun S hC => by
    rw [f_X6_fewest, bnd_e, sheetOf_ok N _ hj, cal_s, opt_1, if_pos hj, (isLane_ok N _ ht).1, cal_s, if_neg (by decide), if_neg (nI_pos (by omega)), if_neg (nI_nlt n5 (by omega)), if_neg hz1, if_pos (i_nlt hz2), faultOf_ok N (hC.flt (nI 0)).2.2.2.2.2.2.2.1 hj (fun q hq => ha.2.2.2 j q hq), cal_s]
  have hM2 : ∀ S, RM S a → f_X7_fewest N S (nI j) (nI t) i (nI n) z = (fun S14 => if nI (flt (a.2.2.2.2.2.2 j) (nI t) i (nI n)) = (0 : Int32) then bnd (((nI 60) * nI j) + i) (fun y17 => bnd ((nI 0)) (fun y18 => f_X7_fewest_79 N N S14 (nI n) z y17 y18)) else cal (f_X7_fails N S14 (nI (flt (a.2.2.2.2.2.2 j) (nI t) i (nI n)))) (fun r21 S19 => some (r21, S19))) (st S 32 0 (nI 0)) := fun S hM => by
    rw [f_X7_fewest, bnd_e, isSheet_ok N _ hj, cal_s, if_neg (by decide), (isLane_ok N _ ht).2, cal_s, if_neg (by decide), within_in N _ (Nat.zero_le _) n5 (by decide), cal_s, if_neg (by decide), within_ok N _ hz1 hz2, cal_s, if_neg (by decide), against_ok N (hM.flt (nI 0)).2.2.2.2.2.2.2.1 hj (fun q hq => ha.2.2.2 j q hq), cal_s]
  by_cases hz0 : flt (a.2.2.2.2.2.2 j) (nI t) i (nI n) = 0
  · cases hs : a.2.2.2.2.2.2 j with
    | none => rw [hs] at hz0; cases hz0
    | some q =>
    obtain ⟨q1, q2⟩ := ha.2.2.2 j q hs
    rw [hz0] at hC2 hM2
    rw [hs] at hz0
    obtain ⟨-, i, n', rfl, hnn, hin⟩ := flt_0 hz0
    have hnn : n = n' := by
      by_cases c : n' < 2147483648
      · exact (n_eq (by omega) c).mp hnn
      · omega
    subst hnn
    have hcell : ∀ S, RC S a → (∀ p, p < 60 → st S 0 10 (nI 0) (16 + j) p = q.2.2 p) := fun S hC => (((hC.flt (nI 0)).2.2.2.2.2.2.2.1 j hj).2 q hs).2.2
    have hcellM : ∀ S, RM S (A5 a (nI 0)) → (∀ p, p < n → S 35 (60 * j + i + p) = q.2.2 (i + p)) := fun S hM p hp => by
      rw [show 60 * j + i + p = 60 * j + (i + p) by omega]
      exact ((hM.2.2.2.2.2.2.2.1 j hj).2 q hs).2.2 (i + p) (by omega)
    have hCA : ∀ S, RC S a → f_X5_allWithin N (st S 0 10 (nI 0)) j (nI i) (nI n) (nI 3) = some (nI (b01 (allW q.2.2 (nI 3) n i)), st S 0 10 (nI 0)) := fun S hC => by
      rw [f_X5_allWithin, bnd_e]
      exact allWithin_ok (hcell S hC) (by omega) (nI 3) n 0 N (by omega) (by omega)
    have hlook := fun (S : St) (hM : RM S a) => few_look (N := N) (S := st S 32 0 (nI 0)) (f := q.2.2) (x0 := 60 * j + i) (i := i) (n := n) (by omega) (hcellM _ (hM.flt (nI 0))) z n 0 N (by omega) (by omega)
    by_cases hA : allW q.2.2 (nI 3) n i = true
    · have hk := allW_k (by omega) n i hA
      have hf4 : ∀ p, p < n → (q.2.2 (i + p)).toNatClampNeg < 4 := fun p hp => by have := (hk p hp).2; omega
      refine ⟨fewA a.1 (hasG (nI (Fn n + 0 * 4 ^ n + vl (fun p => (q.2.2 (i + p)).toNatClampNeg) n))) a.2.1 z, A5 a (nI 0), fun S hC => ?_, fun S hM => ?_⟩
      · have hC' := hC.flt (nI 0)
        obtain ⟨S', d1, d2, d3⟩ := few_c hN (goal := nI (Fn n + 0 * 4 ^ n + vl (fun p => (q.2.2 (i + p)).toNatClampNeg) n)) hC'.2.1 ha.2.1 hzz
        refine ⟨S', ?_, hC'.ofS d2 d3, (frC.st (by decide) S _ _).tr d3.C⟩
        show f_X6_fewest N S (nI j) (nI t) (nI i) (nI n) z = _
        rw [hC2 S hC]; dsimp only
        have htl := told_l (N := N) (S := st S 0 10 (nI 0)) (j := j) (f := fun p => (q.2.2 (i + p)).toNatClampNeg) (i := i) (n := n) n5 (by omega) hf4 (fun p hp => by rw [hcell S hC _ (by omega)]; exact (hk p hp).1) n 0 N (by omega) (by omega)
        have htl : f_X6_lineTold N (st S 0 10 (nI 0)) j (nI i) (nI n) = some (nI (Fn n + 0 * 4 ^ n + vl (fun p => (q.2.2 (i + p)).toNatClampNeg) n), st S 0 10 (nI 0)) := by
          rw [f_X6_lineTold, bnd_e, bnd_e]; exact htl
        rw [if_pos nI_0, hCA S hC, hA, cal_s, if_neg (by decide), htl, cal_s, hC'.2.2.1]
        exact d1
      · have hM' := hM.flt (nI 0)
        obtain ⟨S', d1, d2, d3⟩ := few_m hN hM' (f := fun p => (q.2.2 (i + p)).toNatClampNeg) (x0 := 60 * j + i) (n := n) n5 (by omega) hf4 (fun S' hS' p hp => by rw [hcellM S' hS' p hp]; exact (hk p hp).1) hzz
        refine ⟨S', ?_, d2, (frM.st (by decide) S _ _).tr d3⟩
        show f_X7_fewest N S (nI j) (nI t) (nI i) (nI n) z = _
        rw [hM2 S hM]; dsimp only
        rw [if_pos nI_0, bnd_e, bnd_e, n_mul, n_add, (hlook S hM).2 hA]
        exact d1
    · have hA := ts_nt' hA
      refine ⟨-2, A5 a (nI 0), fun S hC => ⟨st S 0 10 (nI 0), ?_, hC.flt _, frC.st (by decide) S _ _⟩, fun S hM => ⟨st S 32 0 (nI 0), ?_, hM.flt _, frM.st (by decide) S _ _⟩⟩
      · show f_X6_fewest N S (nI j) (nI t) (nI i) (nI n) z = _
        rw [hC2 S hC]; dsimp only
        rw [if_pos nI_0, hCA S hC, hA, cal_s, if_pos (by rfl)]
      · show f_X7_fewest N S (nI j) (nI t) (nI i) (nI n) z = _
        rw [hM2 S hM]; dsimp only
        rw [if_pos nI_0, bnd_e, bnd_e, n_mul, n_add, (hlook S hM).1 hA]
  · have hlt := flt_lt (a.2.2.2.2.2.2 j) (nI t) i (nI n)
    generalize flt (a.2.2.2.2.2.2 j) (nI t) i (nI n) = v at hz0 hlt hC2 hM2
    have hv : ¬ nI v = 0 := by rw [z_eq (by omega)]; exact hz0
    refine ⟨(-10 : Int32) - nI v, A5 a (nI v), fun S hC => ⟨st (st S 0 10 (nI 0)) 0 10 (nI v), ?_, (hC.flt _).flt _, (frC.st (by decide) S _ _).tr (frC.st (by decide) _ _ _)⟩, fun S hM => ⟨st (st S 32 0 (nI 0)) 32 0 (nI v), ?_, (hM.flt _).flt _, (frM.st (by decide) S _ _).tr (frM.st (by decide) _ _ _)⟩⟩
    · show f_X6_fewest N S (nI j) (nI t) i (nI n) z = _
      rw [hC2 S hC]; dsimp only
      rw [if_neg hv, meet_at, cal_s]
    · show f_X7_fewest N S (nI j) (nI t) i (nI n) z = _
      rw [hM2 S hM]; dsimp only
      rw [if_neg hv, fails_at, cal_s]
