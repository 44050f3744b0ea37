/-! SHEETS -/
def fit (cnt : Nat) (i n : Int32) : Bool := decide (¬ n < 0 ∧ ¬ i < 0 ∧ i.toInt + n.toInt ≤ (cnt : Int))
def flt (x : Option (Nat × Nat × (Nat → Int32))) (lane i n : Int32) : Nat := match x with
  | none => 1
  | some y => if nI y.1 = lane then (if n < 0 then 4 else if fit y.2.1 i n then 0 else 3) else 2
theorem fit_i {cnt i n : Nat} (hi : i < 2147483648) (hn : n < 2147483648) : fit cnt (nI i) (nI n) = decide (i + n ≤ cnt) := by
  unfold fit
  rw [nI_toInt hi, nI_toInt hn]
  have h1 := nI_pos (n := i) hi
  have h2 := nI_pos (n := n) hn
  by_cases c : i + n ≤ cnt
  · rw [decide_eq_true c, decide_eq_true_iff]; exact ⟨h2, h1, by omega⟩
  · rw [decide_eq_false c, decide_eq_false_iff_not]; rintro ⟨-, -, h⟩; omega
theorem neg_ne {a : Nat} (h : a < 2147483648) : ¬ nI a = (-1 : Int32) ∧ ¬ nI a = (-9 : Int32) := ⟨n_neg 1 a (by decide) (by decide) h, n_neg 9 a (by decide) (by decide) h⟩
theorem hasAll_ok (N : Nat) {S : St} {j cnt : Nat} (h : S (12 + j) 1 = nI cnt) (hc : cnt ≤ 60) (i n : Int32) : f_X5_hasAll N S j i n = some (nI (b01 (fit cnt i n)), S) := by
  rw [f_X5_hasAll, h]
  by_cases c1 : n < 0
  · rw [if_pos c1]
    have : fit cnt i n = false := by unfold fit; rw [decide_eq_false_iff_not]; rintro ⟨h1, -⟩; exact h1 c1
    rw [this]; rfl
  · rw [if_neg c1]
    by_cases c2 : i < 0
    · rw [if_pos c2]
      have : fit cnt i n = false := by unfold fit; rw [decide_eq_false_iff_not]; rintro ⟨-, h1, -⟩; exact h1 c2
      rw [this]; rfl
    · rw [if_neg c2]
      obtain ⟨n, hn, rfl⟩ := nI_of c1
      obtain ⟨i, hi, rfl⟩ := nI_of c2
      rw [fit_i hi hn]
      by_cases c3 : cnt < n
      · rw [if_pos (nI_lt c3 hn), decide_eq_false (by omega)]; rfl
      · rw [if_neg (nI_nlt (by omega) (by omega)), n_sub (by omega)]
        by_cases c4 : cnt - n < i
        · rw [if_pos (nI_lt c4 hi), decide_eq_false (by omega)]; rfl
        · rw [if_neg (nI_nlt (by omega) (by omega)), decide_eq_true (by omega)]; rfl
theorem faultOf_ok (N : Nat) {S : St} {sh : Shs} (h : ShC S sh) {j : Nat} (hj : j < 4) (hs : ∀ x, sh j = some x → x.1 ≤ 2 ∧ x.2.1 ≤ 60) (lane i n : Int32) : f_X5_faultOf N S j lane i n = some (nI (flt (sh j) lane i n), S) := by
  rw [f_X5_faultOf]
  cases hx : sh j with
  | none => rw [if_pos ((h j hj).1 hx)]; rfl
  | some x =>
    obtain ⟨s1, s2⟩ := hs x hx
    obtain ⟨a1, a2, a3⟩ := (h j hj).2 x hx
    rw [a1, if_neg (neg_ne (by omega)).1]
    show _ = some (nI (if nI x.1 = lane then (if n < 0 then 4 else if fit x.2.1 i n then 0 else 3) else 2), S)
    by_cases c1 : nI x.1 = lane
    · rw [if_pos c1, if_pos c1]
      by_cases c2 : n < 0
      · rw [if_neg (i_lt_nle c2), if_pos c2]
      · rw [if_pos (i_nlt c2), if_neg c2, hasAll_ok N a2 s2, cal_s]
        cases fit x.2.1 i n <;> rfl
    · rw [if_neg c1, if_neg c1]
theorem against_ok (N : Nat) {S : St} {sh : Shs} (h : ShM S sh) {j : Nat} (hj : j < 4) (hs : ∀ x, sh j = some x → x.1 ≤ 2 ∧ x.2.1 ≤ 60) (lane i n : Int32) : f_X7_against N S (nI j) lane i n = some (nI (flt (sh j) lane i n), S) := by
  have hin : inb (nI j) 4 = true := (inb_i (by omega)).mpr hj
  rw [f_X7_against, if_pos hin, n_cl (by omega), if_pos hin]
  cases hx : sh j with
  | none => rw [if_pos ((h j hj).1 hx), f_X7_against_23, if_pos hin, n_cl (by omega), if_pos ((h j hj).1 hx)]; rfl
  | some x =>
    obtain ⟨s1, s2⟩ := hs x hx
    obtain ⟨a1, a2, a3⟩ := (h j hj).2 x hx
    rw [a1, if_neg (neg_ne (by omega)).2]
    show _ = some (nI (if nI x.1 = lane then (if n < 0 then 4 else if fit x.2.1 i n then 0 else 3) else 2), S)
    by_cases c1 : nI x.1 = lane
    · rw [if_pos c1, if_pos c1, f_X7_against_23, if_pos hin, n_cl (by omega), a1, if_neg (neg_ne (by omega)).2]
      by_cases c2 : n < 0
      · rw [if_neg (i_lt_nle c2), if_pos c2]
      · rw [if_pos (i_nlt c2), if_neg c2]
        obtain ⟨n, hn, rfl⟩ := nI_of c2
        by_cases c3 : i < 0
        · rw [if_pos c3]
          have : fit x.2.1 i (nI n) = false := by unfold fit; rw [decide_eq_false_iff_not]; rintro ⟨-, h1, -⟩; exact h1 c3
          rw [this]; rfl
        · rw [if_neg c3, if_pos hin, if_pos hin, a2]
          obtain ⟨i, hi, rfl⟩ := nI_of c3
          rw [fit_i hi hn]
          by_cases c4 : x.2.1 < i
          · rw [if_pos (nI_lt c4 hi), decide_eq_false (by omega)]; rfl
          · rw [if_neg (nI_nlt (by omega) (by omega)), n_sub (by omega)]
            by_cases c5 : n ≤ x.2.1 - i
            · rw [if_pos (nI_le c5 (by omega)), decide_eq_true (by omega)]; rfl
            · rw [if_neg (nI_ge (by omega) hn), decide_eq_false (by omega)]; rfl
    · rw [if_neg c1, if_neg c1]
theorem sheetOf_no (N : Nat) (S : St) {x : Int32} (h : x < 0 ∨ nI 4 ≤ x) : f_X6_sheetOf N S x = some (none, S) := by
  rw [f_X6_sheetOf]
  by_cases c1 : x < 0
  · rw [if_pos c1]
  · rw [if_neg c1, if_neg (i_le_nlt (h.resolve_left c1))]
theorem sheetOf_ok (N : Nat) (S : St) {j : Nat} (h : j < 4) : f_X6_sheetOf N S (nI j) = some (some j, S) := by
  rw [f_X6_sheetOf, if_neg (nI_pos (by omega)), if_pos (nI_lt h (by omega)), if_pos ((inb_i (by omega)).mpr h), n_cl (by omega)]
theorem isSheet_no (N : Nat) (S : St) {x : Int32} (h : x < 0 ∨ nI 4 ≤ x) : f_X7_isSheet N S x = some (nI 0, S) := by
  have h' : x < nI 0 ∨ nI 3 < x := h.elim Or.inl (fun z => Or.inr (by
    have h1 := Int32.le_iff_toInt_le.mp z
    rw [nI_toInt (by omega)] at h1
    apply Int32.lt_iff_toInt_lt.mpr
    rw [nI_toInt (by omega)]
    omega))
  rw [f_X7_isSheet, within_no N S h', cal_s, if_pos (by decide)]
theorem isSheet_ok (N : Nat) (S : St) {j : Nat} (h : j < 4) : f_X7_isSheet N S (nI j) = some (nI 1, S) := by
  rw [f_X7_isSheet, within_in N S (Nat.zero_le _) (show j ≤ 3 by omega) (by decide), cal_s, if_pos (by decide)]
theorem isLane_no (N : Nat) (S : St) {x : Int32} (h : x < 0 ∨ nI 2 < x) : f_X6_isLane N S x = some (nI 0, S) ∧ f_X7_isSort N S x = some (nI 0, S) := by
  constructor
  · rw [f_X6_isLane]
    by_cases c1 : x < 0
    · rw [if_pos c1]
    · rw [if_neg c1, if_pos (h.resolve_left c1)]
  · rw [f_X7_isSort, within_no N S (lo := nI 0) h, cal_s, if_pos (by decide)]
theorem isLane_ok (N : Nat) (S : St) {j : Nat} (h : j ≤ 2) : f_X6_isLane N S (nI j) = some (nI 1, S) ∧ f_X7_isSort N S (nI j) = some (nI 1, S) := by
  constructor
  · rw [f_X6_isLane, if_neg (nI_pos (by omega)), if_neg (nI_nlt h (by omega))]
  · rw [f_X7_isSort, within_in N S (Nat.zero_le _) h (by decide), cal_s, if_pos (by decide)]
/-- a sheet's number, or none -/
theorem is_sh (x : Int32) : (x < 0 ∨ nI 4 ≤ x) ∨ ∃ j, j < 4 ∧ x = nI j := by
  rcases pk_ix x (n := 4) (by omega) with h | h | ⟨j, h1, h2⟩
  · exact Or.inl (Or.inl h)
  · exact Or.inl (Or.inr h)
  · exact Or.inr ⟨j, h1, h2⟩
theorem is_ln (x : Int32) : (x < 0 ∨ nI 2 < x) ∨ ∃ j, j ≤ 2 ∧ x = nI j := by
  by_cases h : x < 0 ∨ nI 2 < x
  · exact Or.inl h
  · obtain ⟨j, -, j2, e⟩ := rng (lo := 0) (hi := 2) (by decide) (by decide) (fun z => h (Or.inl z)) (fun z => h (Or.inr z))
    exact Or.inr ⟨j, j2, e⟩
/-- Arrays.fill -/
theorem fillA (N : Nat) (q n : Nat) (v : Int32) (hn : n < 2147483648) : ∀ (d i f : Nat) (S : St), i + d = n → d < f → ∃ S', f_J7_fill_53178_5 N f S q n v (nI i) (nI n) = some ((), S') ∧ (∀ k, k ≠ q → S' k = S k) ∧ ∀ x, S' q x = if i ≤ x ∧ x < n then v else S q x := by
  intro d
  induction d with
  | zero =>
    intro i f S hi hf
    obtain ⟨g, rfl⟩ : ∃ g, f = g + 1 := ⟨f - 1, by omega⟩
    rw [f_J7_fill_53178_5, if_pos (nI_le (by omega) (by omega))]
    exact ⟨S, rfl, fun _ _ => rfl, fun x => by rw [if_neg (by omega)]⟩
  | succ d ih =>
    intro i f S hi hf
    obtain ⟨g, rfl⟩ : ∃ g, f = g + 1 := ⟨f - 1, by omega⟩
    rw [f_J7_fill_53178_5, if_neg (nI_ge (by omega) (by omega)), if_pos ((inb_i (by omega)).mpr (by omega)), bnd_e, bnd_e, n_cl (by omega), n_add]
    obtain ⟨S', a1, a2, a3⟩ := ih (i + 1) g (st S q i v) (by omega) (by omega)
    refine ⟨S', a1, fun k hk => (a2 k hk).trans (st_ne hk), fun x => ?_⟩
    rw [a3 x]
    by_cases c1 : x = i
    · rw [if_neg (by omega), if_pos (by omega), c1, st_s]
    · by_cases c2 : i + 1 ≤ x ∧ x < n
      · rw [if_pos c2, if_pos (by omega)]
      · rw [if_neg c2, if_neg (by omega), st_n c1]
theorem fill_all {N : Nat} (q n : Nat) (v : Int32) (hn : n < N) (hN : n < 2147483648) (S : St) : ∃ S', f_J7_fill_53178 N S q n v = some ((), S') ∧ (∀ k, k ≠ q → S' k = S k) ∧ ∀ x, S' q x = if x < n then v else S q x := by
  rw [f_J7_fill_53178, bnd_e, bnd_e]
  obtain ⟨S', a1, a2, a3⟩ := fillA N q n v hN n 0 N S (by omega) hn
  exact ⟨S', a1, a2, fun x => by rw [a3 x]; by_cases c : x < n <;> simp [c]⟩
theorem renew_ok {N : Nat} (hN : 60 < N) (S : St) (j : Nat) (hj : j < 4) (x n : Int32) : ∃ S', f_X5_renew N S j x n = some ((), S') ∧ (∀ k, k ≠ 12 + j → k ≠ 16 + j → S' k = S k) ∧ S' (12 + j) 0 = x ∧ S' (12 + j) 1 = n ∧ ∀ i, i < 60 → S' (16 + j) i = nI 0 := by
  rw [f_X5_renew, bnd_e, bnd_e]
  obtain ⟨S', a1, a2, a3⟩ := fill_all (N := N) (16 + j) 60 (nI 0) hN (by decide) (st (st S (12 + j) 0 x) (12 + j) 1 n)
  rw [a1, cal_s]
  refine ⟨S', rfl, fun k h1 h2 => by rw [a2 k h2, st_ne h1, st_ne h1], ?_, ?_, fun i hi => by rw [a3 i, if_pos hi]⟩
  · rw [a2 _ (by omega), st_n (by decide), st_s]
  · rw [a2 _ (by omega), st_s]
def up1 (sh : Shs) (j : Nat) (y : Option (Nat × Nat × (Nat → Int32))) : Shs := fun k => if k = j then y else sh k
theorem RC.sheet {S S' : St} {a : Ab} (h : RC S a) {j : Nat} (hj : j < 4) (hf : ∀ k, k < 32 → k ≠ 12 + j → k ≠ 16 + j → S' k = S k) {y : Option (Nat × Nat × (Nat → Int32))} (hy : ∀ x, y = some x → x.1 ≤ 2 ∧ x.2.1 ≤ 60) (hn : (y = none → S' (12 + j) 0 = -1) ∧ ∀ x, y = some x → S' (12 + j) 0 = nI x.1 ∧ S' (12 + j) 1 = nI x.2.1 ∧ ∀ i, i < 60 → S' (16 + j) i = x.2.2 i) : RC S' (a.1, a.2.1, a.2.2.1, a.2.2.2.1, a.2.2.2.2.1, a.2.2.2.2.2.1, up1 a.2.2.2.2.2.2 j y) := by
  obtain ⟨k0, k1, k2, k3, k4, k5, k6, k7, k8⟩ := h
  have h0 := hf 0 (by decide) (by omega) (by omega)
  refine ⟨⟨k0.1, k0.2.1, k0.2.2.1, fun q x hx => ?_⟩, k1.eq (hf 1 (by decide) (by omega) (by omega)) (hf 3 (by decide) (by omega) (by omega)) (fun i hi => ⟨hf _ (by omega) (by omega) (by omega), hf _ (by omega) (by omega) (by omega)⟩), h0 ▸ k2, h0 ▸ k3, h0 ▸ k4, h0 ▸ k5, ⟨h0 ▸ k6.1, fun r q hq => ?_⟩, fun q hq => ?_, ?_⟩
  · have hx : (if q = j then y else a.2.2.2.2.2.2 q) = some x := hx
    by_cases c : q = j
    · rw [if_pos c] at hx; exact hy x hx
    · rw [if_neg c] at hx; exact k0.2.2.2 q x hx
  · rw [hf 10 (by decide) (by omega) (by omega), hf 11 (by decide) (by omega) (by omega)]
    exact k6.2 r q hq
  · show ((if q = j then y else a.2.2.2.2.2.2 q) = none → _) ∧ ∀ x, (if q = j then y else a.2.2.2.2.2.2 q) = some x → _
    by_cases c : q = j
    · subst c; rw [if_pos rfl]; exact hn
    · rw [if_neg c, hf (12 + q) (by omega) (by omega) (by omega), hf (16 + q) (by omega) (by omega) (by omega)]
      exact k7 q hq
  · rw [hf 4 (by decide) (by omega) (by omega)]
    exact k8
theorem RM.sheet {S S' : St} {a : Ab} (h : RM S a) {j : Nat} (hf : ∀ k, 32 ≤ k → k ≠ 33 → k ≠ 34 → k ≠ 35 → S' k = S k) (ho : ∀ k, k < 4 → k ≠ j → S' 33 k = S 33 k ∧ S' 34 k = S 34 k ∧ ∀ i, i < 60 → S' 35 (60 * k + i) = S 35 (60 * k + i)) {y : Option (Nat × Nat × (Nat → Int32))} (hy : ∀ x, y = some x → x.1 ≤ 2 ∧ x.2.1 ≤ 60) (hn : (y = none → S' 33 j = -9) ∧ ∀ x, y = some x → S' 33 j = nI x.1 ∧ S' 34 j = nI x.2.1 ∧ ∀ i, i < 60 → S' 35 (60 * j + i) = x.2.2 i) : RM S' (a.1, a.2.1, a.2.2.1, a.2.2.2.1, a.2.2.2.2.1, a.2.2.2.2.2.1, up1 a.2.2.2.2.2.2 j y) := by
  obtain ⟨k0, k1, k2, k3, k4, k5, k6, k7, k8⟩ := h
  have h0 := hf 32 (by decide) (by decide) (by decide) (by decide)
  refine ⟨⟨k0.1, k0.2.1, k0.2.2.1, fun q x hx => ?_⟩, ⟨h0 ▸ k1.1, fun i m hm => ?_⟩, h0 ▸ k2, h0 ▸ k3, h0 ▸ k4, h0 ▸ k5, ⟨h0 ▸ k6.1, fun r q hq => ?_⟩, fun q hq => ?_, ?_⟩
  · have hx : (if q = j then y else a.2.2.2.2.2.2 q) = some x := hx
    by_cases c : q = j
    · rw [if_pos c] at hx; exact hy x hx
    · rw [if_neg c] at hx; exact k0.2.2.2 q x hx
  · rw [hf 36 (by decide) (by decide) (by decide) (by decide), hf 37 (by decide) (by decide) (by decide) (by decide), hf 38 (by decide) (by decide) (by decide) (by decide), hf 39 (by decide) (by decide) (by decide) (by decide)]
    exact k1.2 i m hm
  · rw [hf 52 (by decide) (by decide) (by decide) (by decide), hf 53 (by decide) (by decide) (by decide) (by decide)]
    exact k6.2 r q hq
  · show ((if q = j then y else a.2.2.2.2.2.2 q) = none → _) ∧ ∀ x, (if q = j then y else a.2.2.2.2.2.2 q) = some x → _
    by_cases c : q = j
    · subst c; rw [if_pos rfl]; exact hn
    · rw [if_neg c]
      obtain ⟨o1, o2, o3⟩ := ho q hq c
      rw [o1, o2]
      obtain ⟨p1, p2⟩ := k7 q hq
      exact ⟨p1, fun x hx => ⟨(p2 x hx).1, (p2 x hx).2.1, fun i hi => (o3 i hi).trans ((p2 x hx).2.2 i hi)⟩⟩
  · unfold Mks mkP mkM
    rw [h0, hf 49 (by decide) (by decide) (by decide) (by decide)]
    exact k8
