/-! copy -/
/-- the reference's row of copies, in the order that keeps what is still to be read -/
theorem copy_up (N : Nat) {j k i u n : Nat} (hj : j < 4) (hk : k < 4) (hi : i + n ≤ 60) (hu : u + n ≤ 60) (hd : u ≤ i) : ∀ (d q f : Nat) (S : St), q + d = n → d < f → ∃ S', f_X7_copy_166 N f S (nI j) (nI i) (nI k) (nI u) (nI n) (nI 0) (nI q) = some (nI n, S') ∧ (∀ z, z ≠ 35 → S' z = S z) ∧ ∀ x, S' 35 x = if 60 * k + u + q ≤ x ∧ x < 60 * k + u + n then S 35 (60 * j + i + (x - (60 * k + u))) else S 35 x := by
  intro d
  induction d with
  | zero =>
    intro q f S hq hf
    obtain ⟨g, rfl⟩ : ∃ g, f = g + 1 := ⟨f - 1, by omega⟩
    rw [f_X7_copy_166, if_pos (nI_le (by omega) (by omega))]
    exact ⟨S, rfl, fun _ _ => rfl, fun x => by rw [if_neg (by omega)]⟩
  | succ d ih =>
    intro q f S hq hf
    obtain ⟨g, rfl⟩ : ∃ g, f = g + 1 := ⟨f - 1, by omega⟩
    rw [f_X7_copy_166, if_neg (nI_ge (by omega) (by omega)), if_pos nI_0, f_X7_copy_190, n_mul, n_add, n_add, if_pos ((inb_i (by omega)).mpr (by omega)), n_mul, n_add, n_add, if_pos ((inb_i (by omega)).mpr (by omega)), bnd_e, bnd_e, n_cl (by omega), n_cl (by omega), n_add]
    obtain ⟨S', a1, a2, a3⟩ := ih (q + 1) g (st S 35 (60 * k + u + q) (S 35 (60 * j + i + q))) (by omega) (by omega)
    refine ⟨S', a1, fun z hz => (a2 z hz).trans (st_ne hz), fun x => ?_⟩
    rw [a3 x]
    by_cases c1 : x = 60 * k + u + q
    · rw [if_neg (by omega), if_pos (by omega), c1, st_s, show 60 * k + u + q - (60 * k + u) = q by omega]
    · by_cases c2 : 60 * k + u + (q + 1) ≤ x ∧ x < 60 * k + u + n
      · rw [if_pos c2, if_pos (by omega), st_n (by omega)]
      · rw [if_neg c2, if_neg (by omega), st_n c1]
theorem copy_dn (N : Nat) {j k i u n : Nat} (hj : j < 4) (hk : k < 4) (hi : i + n ≤ 60) (hu : u + n ≤ 60) (hd : i < u) : ∀ (d q f : Nat) (S : St), q + d = n → d < f → ∃ S', f_X7_copy_166 N f S (nI j) (nI i) (nI k) (nI u) (nI n) (nI 1) (nI q) = some (nI n, S') ∧ (∀ z, z ≠ 35 → S' z = S z) ∧ ∀ x, S' 35 x = if 60 * k + u ≤ x ∧ x < 60 * k + u + d then S 35 (60 * j + i + (x - (60 * k + u))) else S 35 x := by
  intro d
  induction d with
  | zero =>
    intro q f S hq hf
    obtain ⟨g, rfl⟩ : ∃ g, f = g + 1 := ⟨f - 1, by omega⟩
    rw [f_X7_copy_166, if_pos (nI_le (by omega) (by omega))]
    exact ⟨S, rfl, fun _ _ => rfl, fun x => by rw [if_neg (by omega)]⟩
  | succ d ih =>
    intro q f S hq hf
    obtain ⟨g, rfl⟩ : ∃ g, f = g + 1 := ⟨f - 1, by omega⟩
    rw [f_X7_copy_166, if_neg (nI_ge (by omega) (by omega)), if_neg (by decide), n_sub (by omega), n_sub (by omega), show n - 1 - q = d by omega, f_X7_copy_190, n_mul, n_add, n_add, if_pos ((inb_i (by omega)).mpr (by omega)), n_mul, n_add, n_add, if_pos ((inb_i (by omega)).mpr (by omega)), bnd_e, bnd_e, n_cl (by omega), n_cl (by omega), n_add]
    obtain ⟨S', a1, a2, a3⟩ := ih (q + 1) g (st S 35 (60 * k + u + d) (S 35 (60 * j + i + d))) (by omega) (by omega)
    refine ⟨S', a1, fun z hz => (a2 z hz).trans (st_ne hz), fun x => ?_⟩
    rw [a3 x]
    by_cases c1 : x = 60 * k + u + d
    · rw [if_neg (by omega), if_pos (by omega), c1, st_s, show 60 * k + u + d - (60 * k + u) = d by omega]
    · by_cases c2 : 60 * k + u ≤ x ∧ x < 60 * k + u + d
      · rw [if_pos c2, if_pos (by omega), st_n (by omega)]
      · rw [if_neg c2, if_neg (by omega), st_n c1]
/-- which answer, by the sheets -/
def cpf (p q : Option (Nat × Nat × (Nat → Int32))) (i u n : Int32) : Nat := match p with
  | none => 1
  | some x => match q with
    | none => 1
    | some y => if x.1 = y.1 then (if fit x.2.1 i n && fit y.2.1 u n then 0 else 3) else 2
theorem copy110_no {N : Nat} (S : St) {j k cj ck : Nat} (hj : j < 4) (hk : k < 4) (h1 : S 34 j = nI cj) (h2 : S 34 k = nI ck) (hcj : cj ≤ 60) (hck : ck ≤ 60) (i u n : Int32) (b : Int32) (hb : b = nI 0 ∨ b = nI 1 ∧ ¬ n < 0 ∧ ¬ i < 0 ∧ ¬ u < 0 ∧ ¬ nI cj < i ∧ ¬ nI ck < u) (hf : (fit cj i n && fit ck u n) = false) : f_X7_copy_110 N S (nI j) i (nI k) u n b = some ((-10 : Int32) - nI 3, st S 32 0 (nI 3)) := by
  have hin : inb (nI j) 4 = true := (inb_i (by omega)).mpr hj
  have hin2 : inb (nI k) 4 = true := (inb_i (by omega)).mpr hk
  rw [f_X7_copy_110]
  rcases hb with rfl | ⟨rfl, b1, b2, b3, b4, b5⟩
  · rw [if_pos nI_0, fails_at, cal_s]
  · rw [if_neg (by decide), if_pos hin, n_cl (by omega), h1]
    obtain ⟨n, hn, rfl⟩ := nI_of b1
    obtain ⟨i, hi, rfl⟩ := nI_of b2
    obtain ⟨u, hu, rfl⟩ := nI_of b3
    rw [n_lt (by omega) hi] at b4
    rw [n_lt (by omega) hu] at b5
    rw [fit_i hi hn, fit_i hu hn] at hf
    rw [n_sub (by omega)]
    by_cases c1 : cj - i < n
    · rw [if_pos (nI_lt c1 hn), fails_at, cal_s]
    · rw [if_neg (nI_nlt (by omega) (by omega)), if_pos hin2, n_cl (by omega), h2, n_sub (by omega)]
      rw [decide_eq_true (show i + n ≤ cj by omega), Bool.true_and, decide_eq_false_iff_not] at hf
      rw [if_neg (nI_ge (by omega) hn), fails_at, cal_s]
theorem b_copy {N : Nat} (hN : 61 ≤ N) (x i y u n : Int32) : Both (fun S => f_X6_copy N S x i y u n) (fun S => f_X7_copy N S x i y u n) := by
  refine Both.of fun a ha => ?_
  have hno : ∀ (hx : (x < 0 ∨ nI 4 ≤ x) ∨ (∃ j, j < 4 ∧ x = nI j) ∧ (y < 0 ∨ nI 4 ≤ y)), ∃ r a', (∀ S, RC S a → ∃ S1, f_X6_copy N S x i y u n = some (r, S1) ∧ RC S1 a' ∧ frC S S1) ∧ ∀ S, RM S a → ∃ S2, f_X7_copy N S x i y u n = some (r, S2) ∧ RM S2 a' ∧ frM S S2 := by
    intro hx
    refine ⟨-1, A5 a (nI 0), fun S hC => ⟨st S 0 10 (nI 0), ?_, hC.flt _, frC.st (by decide) S _ _⟩, fun S hM => ⟨st S 32 0 (nI 0), ?_, hM.flt _, frM.st (by decide) S _ _⟩⟩
    · rw [f_X6_copy, bnd_e]
      rcases hx with hx | ⟨⟨j, hj, rfl⟩, hy⟩
      · rw [sheetOf_no N _ hx, cal_s, opt_0]
        rcases is_sh y with hy | ⟨k, hk, rfl⟩
        · rw [sheetOf_no N _ hy, cal_s, opt_0]
        · rw [sheetOf_ok N _ hk, cal_s, opt_1, if_pos hk]
      · rw [sheetOf_ok N _ hj, cal_s, opt_1, if_pos hj, sheetOf_no N _ hy, cal_s, opt_0]
    · rw [f_X7_copy, bnd_e]
      rcases hx with hx | ⟨⟨j, hj, rfl⟩, hy⟩
      · rw [isSheet_no N _ hx, cal_s, if_pos nI_0]
      · rw [isSheet_ok N _ hj, cal_s, if_neg (by decide), isSheet_no N _ hy, cal_s, if_pos nI_0]
  rcases is_sh x with hx | ⟨j, hj, rfl⟩
  · exact hno (Or.inl hx)
  rcases is_sh y with hy | ⟨k, hk, rfl⟩
  · exact hno (Or.inr ⟨⟨j, hj, rfl⟩, hy⟩)
  have hin : inb (nI j) 4 = true := (inb_i (by omega)).mpr hj
  have hin2 : inb (nI k) 4 = true := (inb_i (by omega)).mpr hk
  have hCs : ∀ S, f_X6_copy N S (nI j) i (nI k) u n = (fun S10 => if (S10 (12 + j) 0) = (-1 : Int32) then cal (f_X6_meet N S10 (nI 1)) (fun r16 S14 => some (r16, S14)) else if (S10 (12 + k) 0) = (-1 : Int32) then cal (f_X6_meet N S10 (nI 1)) (fun r35 S33 => some (r35, S33)) else if (S10 (12 + j) 0) = (S10 (12 + k) 0) then cal (f_X5_hasAll N S10 j i n) (fun r19 S17 => if r19 = (0 : Int32) then cal (f_X6_meet N S17 (nI 3)) (fun r22 S20 => some (r22, S20)) else cal (f_X5_hasAll N S17 k u n) (fun r25 S23 => if r25 = (0 : Int32) then cal (f_X6_meet N S23 (nI 3)) (fun r29 S27 => some (r29, S27)) else if cpyok i u n 60 60 = true then bnd (sr S23 (16 + k) (va_cpy (S23 (16 + j)) (S23 (16 + k)) i.toNatClampNeg u.toNatClampNeg n.toNatClampNeg)) (fun S26 => some (n, S26)) else none)) else cal (f_X6_meet N S10 (nI 2)) (fun r32 S30 => some (r32, S30))) (st S 0 10 (nI 0)) := fun S => by
    rw [f_X6_copy, bnd_e, sheetOf_ok N _ hj, cal_s, opt_1, if_pos hj, sheetOf_ok N _ hk, cal_s, opt_1, if_pos hk]
  have hMs : ∀ S, f_X7_copy N S (nI j) i (nI k) u n = (fun S5 => if (S5 33 j) = (-9 : Int32) then cal (f_X7_fails N S5 (nI 1)) (fun r10 S8 => some (r10, S8)) else if (S5 33 k) = (-9 : Int32) then cal (f_X7_fails N S5 (nI 1)) (fun r16 S14 => some (r16, S14)) else if (S5 33 j) = (S5 33 k) then (if i < (0 : Int32) then f_X7_copy_110 N S5 (nI j) i (nI k) u n (nI 0) else if u < (0 : Int32) then f_X7_copy_110 N S5 (nI j) i (nI k) u n (nI 0) else if n < (0 : Int32) then f_X7_copy_110 N S5 (nI j) i (nI k) u n (nI 0) else if (S5 34 j) < i then f_X7_copy_110 N S5 (nI j) i (nI k) u n (nI 0) else if (S5 34 k) < u then f_X7_copy_110 N S5 (nI j) i (nI k) u n (nI 0) else f_X7_copy_110 N S5 (nI j) i (nI k) u n (nI 1)) else cal (f_X7_fails N S5 (nI 2)) (fun r13 S11 => some (r13, S11))) (st S 32 0 (nI 0)) := fun S => by
    rw [f_X7_copy, bnd_e, isSheet_ok N _ hj, cal_s, if_neg (by decide), isSheet_ok N _ hk, cal_s, if_neg (by decide), if_pos hin, n_cl (by omega), n_cl (by omega), if_pos hin2, if_pos hin2, if_pos hin, if_pos hin, if_pos hin2]
  -- the answers that are faults
  have hbad : ∀ v, (∀ S, RC S a → f_X6_copy N S (nI j) i (nI k) u n = some ((-10 : Int32) - nI v, st (st S 0 10 (nI 0)) 0 10 (nI v))) → (∀ S, RM S a → f_X7_copy N S (nI j) i (nI k) u n = some ((-10 : Int32) - nI v, st (st S 32 0 (nI 0)) 32 0 (nI v))) → ∃ r a', (∀ S, RC S a → ∃ S1, f_X6_copy N S (nI j) i (nI k) u n = some (r, S1) ∧ RC S1 a' ∧ frC S S1) ∧ ∀ S, RM S a → ∃ S2, f_X7_copy N S (nI j) i (nI k) u n = some (r, S2) ∧ RM S2 a' ∧ frM S S2 := fun v h1 h2 =>
    ⟨(-10 : Int32) - nI v, A5 a (nI v), fun S hC => ⟨_, h1 S hC, (hC.flt _).flt _, (frC.st (by decide) S _ _).tr (frC.st (by decide) _ _ _)⟩, fun S hM => ⟨_, h2 S hM, (hM.flt _).flt _, (frM.st (by decide) S _ _).tr (frM.st (by decide) _ _ _)⟩⟩
  cases hsj : a.2.2.2.2.2.2 j with
  | none =>
    refine hbad 1 (fun S hC => ?_) (fun S hM => ?_)
    · rw [hCs]; dsimp only; rw [if_pos (((hC.flt (nI 0)).2.2.2.2.2.2.2.1 j hj).1 hsj), meet_at, cal_s]
    · rw [hMs]; dsimp only; rw [if_pos (((hM.flt (nI 0)).2.2.2.2.2.2.2.1 j hj).1 hsj), fails_at, cal_s]
  | some p =>
  obtain ⟨p1, p2⟩ := ha.2.2.2 j p hsj
  cases hsk : a.2.2.2.2.2.2 k with
  | none =>
    refine hbad 1 (fun S hC => ?_) (fun S hM => ?_)
    · rw [hCs]; dsimp only; rw [(((hC.flt (nI 0)).2.2.2.2.2.2.2.1 j hj).2 p hsj).1, if_neg (neg_ne (by omega)).1, if_pos (((hC.flt (nI 0)).2.2.2.2.2.2.2.1 k hk).1 hsk), meet_at, cal_s]
    · rw [hMs]; dsimp only; rw [(((hM.flt (nI 0)).2.2.2.2.2.2.2.1 j hj).2 p hsj).1, if_neg (neg_ne (by omega)).2, if_pos (((hM.flt (nI 0)).2.2.2.2.2.2.2.1 k hk).1 hsk), fails_at, cal_s]
  | some q =>
  obtain ⟨q1, q2⟩ := ha.2.2.2 k q hsk
  by_cases hl : p.1 = q.1
  · by_cases hfit : (fit p.2.1 i n && fit q.2.1 u n) = true
    · rw [Bool.and_eq_true] at hfit
      obtain ⟨f1, f2⟩ := hfit
      obtain ⟨i, u, n, rfl, rfl, rfl, hi, hu⟩ : ∃ i' u' n' : Nat, i = nI i' ∧ u = nI u' ∧ n = nI n' ∧ i' + n' ≤ p.2.1 ∧ u' + n' ≤ q.2.1 := by
        have g1 := f1
        have g2 := f2
        unfold fit at g1 g2
        rw [decide_eq_true_iff] at g1 g2
        obtain ⟨n', hn, rfl⟩ := nI_of g1.1
        obtain ⟨i', hi, rfl⟩ := nI_of g1.2.1
        obtain ⟨u', hu, rfl⟩ := nI_of g2.2.1
        rw [fit_i hi hn, decide_eq_true_iff] at f1
        rw [fit_i hu hn, decide_eq_true_iff] at f2
        exact ⟨i', u', n', rfl, rfl, rfl, f1, f2⟩
      have hyy : ∀ z, (some (q.1, q.2.1, va_cpy p.2.2 q.2.2 i u n) : Option (Nat × Nat × (Nat → Int32))) = some z → z.1 ≤ 2 ∧ z.2.1 ≤ 60 := fun z hz => by cases hz; exact ⟨q1, q2⟩
      refine ⟨nI n, (a.1, a.2.1, a.2.2.1, a.2.2.2.1, nI 0, a.2.2.2.2.2.1, up1 a.2.2.2.2.2.2 k (some (q.1, q.2.1, va_cpy p.2.2 q.2.2 i u n))), fun S hC => ?_, fun S hM => ?_⟩
      · obtain ⟨e1, e2, e3⟩ := ((hC.flt (nI 0)).2.2.2.2.2.2.2.1 j hj).2 p hsj
        obtain ⟨g1, g2, g3⟩ := ((hC.flt (nI 0)).2.2.2.2.2.2.2.1 k hk).2 q hsk
        have r3 : ∀ x, x < 60 → sr (st S 0 10 (nI 0)) (16 + k) (va_cpy (st S 0 10 (nI 0) (16 + j)) (st S 0 10 (nI 0) (16 + k)) i u n) (16 + k) x = va_cpy p.2.2 q.2.2 i u n x := fun x hx => by
          rw [sr_s]
          show (if u ≤ x ∧ x < u + n then st S 0 10 (nI 0) (16 + j) (i + (x - u)) else st S 0 10 (nI 0) (16 + k) x) = (if u ≤ x ∧ x < u + n then p.2.2 (i + (x - u)) else q.2.2 x)
          by_cases c : u ≤ x ∧ x < u + n
          · rw [if_pos c, if_pos c, e3 _ (by omega)]
          · rw [if_neg c, if_neg c, g3 x hx]
        refine ⟨sr (st S 0 10 (nI 0)) (16 + k) (va_cpy (st S 0 10 (nI 0) (16 + j)) (st S 0 10 (nI 0) (16 + k)) i u n), ?_, (hC.flt (nI 0)).sheet (S' := sr (st S 0 10 (nI 0)) (16 + k) (va_cpy (st S 0 10 (nI 0) (16 + j)) (st S 0 10 (nI 0) (16 + k)) i u n)) hk (fun z _ _ z2 => sr_ne z2) hyy ⟨fun z => by (cases z), fun z hz => by cases hz; exact ⟨by rw [sr_ne (by omega)]; exact g1, by rw [sr_ne (by omega)]; exact g2, r3⟩⟩, (frC.st (by decide) S _ _).tr (fun z hz => sr_ne (by omega))⟩
        show f_X6_copy N S (nI j) (nI i) (nI k) (nI u) (nI n) = _
        rw [hCs]; dsimp only
        rw [e1, g1, if_neg (neg_ne (by omega)).1, if_neg (neg_ne (by omega)).1, if_pos (by rw [hl]), hasAll_ok N e2 p2, f1, cal_s, if_neg (by decide), hasAll_ok N g2 q2, f2, cal_s, if_neg (by decide), if_pos, bnd_e, n_cl (by omega), n_cl (by omega), n_cl (by omega)]
        unfold cpyok
        rw [decide_eq_true_iff, n_cl (by omega), n_cl (by omega), n_cl (by omega)]
        exact ⟨nI_pos (by omega), nI_pos (by omega), nI_pos (by omega), by omega, by omega⟩
      · obtain ⟨e1, e2, e3⟩ := ((hM.flt (nI 0)).2.2.2.2.2.2.2.1 j hj).2 p hsj
        obtain ⟨g1, g2, g3⟩ := ((hM.flt (nI 0)).2.2.2.2.2.2.2.1 k hk).2 q hsk
        obtain ⟨S', a1, a2, a3⟩ : ∃ S', (if nI u ≤ nI i then f_X7_copy_166 N N (st S 32 0 (nI 0)) (nI j) (nI i) (nI k) (nI u) (nI n) (nI 0) (nI 0) else f_X7_copy_166 N N (st S 32 0 (nI 0)) (nI j) (nI i) (nI k) (nI u) (nI n) (nI 1) (nI 0)) = some (nI n, S') ∧ (∀ z, z ≠ 35 → S' z = st S 32 0 (nI 0) z) ∧ ∀ x, S' 35 x = if 60 * k + u ≤ x ∧ x < 60 * k + u + n then st S 32 0 (nI 0) 35 (60 * j + i + (x - (60 * k + u))) else st S 32 0 (nI 0) 35 x := by
          by_cases c : u ≤ i
          · rw [if_pos (nI_le c (by omega))]
            exact copy_up N hj hk (by omega) (by omega) c n 0 N (st S 32 0 (nI 0)) (by omega) (by omega)
          · rw [if_neg (nI_ge (by omega) (by omega))]
            exact copy_dn N hj hk (by omega) (by omega) (by omega) n 0 N (st S 32 0 (nI 0)) (by omega) (by omega)
        have r3 : ∀ x, x < 60 → S' 35 (60 * k + x) = va_cpy p.2.2 q.2.2 i u n x := fun x hx => by
          rw [a3]
          show _ = (if u ≤ x ∧ x < u + n then p.2.2 (i + (x - u)) else q.2.2 x)
          by_cases c : u ≤ x ∧ x < u + n
          · rw [if_pos (by omega), if_pos c, show 60 * j + i + (60 * k + x - (60 * k + u)) = 60 * j + (i + (x - u)) by omega, e3 _ (by omega)]
          · rw [if_neg (by omega), if_neg c, g3 x hx]
        refine ⟨S', ?_, (hM.flt (nI 0)).sheet (fun z _ z1 z2 z3 => a2 z z3) (fun z hz zk => ⟨by rw [a2 33 (by decide)], by rw [a2 34 (by decide)], fun x hx => by rw [a3, if_neg (by omega)]⟩) hyy ⟨fun z => by (cases z), fun z hz => by cases hz; exact ⟨by rw [a2 33 (by decide)]; exact g1, by rw [a2 34 (by decide)]; exact g2, r3⟩⟩, (frM.st (by decide) S _ _).tr (fun z hz => a2 z (by omega))⟩
        show f_X7_copy N S (nI j) (nI i) (nI k) (nI u) (nI n) = _
        rw [hMs]; dsimp only
        rw [e1, g1, if_neg (neg_ne (by omega)).2, if_neg (neg_ne (by omega)).2, if_pos (by rw [hl]), if_neg (nI_pos (by omega)), if_neg (nI_pos (by omega)), if_neg (nI_pos (by omega)), e2, g2, if_neg (nI_nlt (by omega) (by omega)), if_neg (nI_nlt (by omega) (by omega)), f_X7_copy_110, if_neg (by decide), if_pos hin, n_cl (by omega), e2, n_sub (by omega), if_neg (nI_nlt (by omega) (by omega)), if_pos hin2, n_cl (by omega), g2, n_sub (by omega), if_pos (nI_le (by omega) (by omega)), bnd_e, bnd_e, bnd_e, bnd_e]
        exact a1
    · have hff := ts_nt' hfit
      refine hbad 3 (fun S hC => ?_) (fun S hM => ?_)
      · obtain ⟨e1, e2, e3⟩ := ((hC.flt (nI 0)).2.2.2.2.2.2.2.1 j hj).2 p hsj
        obtain ⟨g1, g2, g3⟩ := ((hC.flt (nI 0)).2.2.2.2.2.2.2.1 k hk).2 q hsk
        rw [hCs]; dsimp only
        rw [e1, g1, if_neg (neg_ne (by omega)).1, if_neg (neg_ne (by omega)).1, if_pos (by rw [hl]), hasAll_ok N e2 p2, cal_s, hasAll_ok N g2 q2, cal_s]
        cases c1 : fit p.2.1 i n with
        | false => rw [if_pos (by rfl), meet_at, cal_s]
        | true =>
          rw [c1, Bool.true_and] at hff
          rw [if_neg (by decide), hff, if_pos (by rfl), meet_at, cal_s]
      · obtain ⟨e1, e2, e3⟩ := ((hM.flt (nI 0)).2.2.2.2.2.2.2.1 j hj).2 p hsj
        obtain ⟨g1, g2, g3⟩ := ((hM.flt (nI 0)).2.2.2.2.2.2.2.1 k hk).2 q hsk
        have h110 := fun b hb => copy110_no (N := N) (st S 32 0 (nI 0)) hj hk e2 g2 p2 q2 i u n b hb hff
        rw [hMs]; dsimp only
        rw [e1, g1, if_neg (neg_ne (by omega)).2, if_neg (neg_ne (by omega)).2, if_pos (by rw [hl]), h110 (nI 0) (Or.inl rfl), e2, g2]
        by_cases c1 : i < 0
        · rw [if_pos c1]
        · rw [if_neg c1]
          by_cases c2 : u < 0
          · rw [if_pos c2]
          · rw [if_neg c2]
            by_cases c3 : n < 0
            · rw [if_pos c3]
            · rw [if_neg c3]
              by_cases c4 : nI p.2.1 < i
              · rw [if_pos c4]
              · rw [if_neg c4]
                by_cases c5 : nI q.2.1 < u
                · rw [if_pos c5]
                · rw [if_neg c5, h110 (nI 1) (Or.inr ⟨rfl, c3, c1, c2, c4, c5⟩)]
  · refine hbad 2 (fun S hC => ?_) (fun S hM => ?_)
    · rw [hCs]; dsimp only; rw [(((hC.flt (nI 0)).2.2.2.2.2.2.2.1 j hj).2 p hsj).1, (((hC.flt (nI 0)).2.2.2.2.2.2.2.1 k hk).2 q hsk).1, if_neg (neg_ne (by omega)).1, if_neg (neg_ne (by omega)).1, if_neg (by rw [n_eq (by omega) (by omega)]; exact hl), meet_at, cal_s]
    · rw [hMs]; dsimp only; rw [(((hM.flt (nI 0)).2.2.2.2.2.2.2.1 j hj).2 p hsj).1, (((hM.flt (nI 0)).2.2.2.2.2.2.2.1 k hk).2 q hsk).1, if_neg (neg_ne (by omega)).2, if_neg (neg_ne (by omega)).2, if_neg (by rw [n_eq (by omega) (by omega)]; exact hl), fails_at, cal_s]
