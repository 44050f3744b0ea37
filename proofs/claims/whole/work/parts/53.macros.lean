/-! macros -/
def bcT (S : St) (x : Nat) : St := st (st (st S (20 + x) 0 (S (20 + (3 + x)) 0)) (20 + x) 1 (S (20 + (3 + x)) 1)) (20 + x) 2 (S (20 + (3 + x)) 2)
theorem bcT_ne {S : St} {x k : Nat} (h : k ≠ 20 + x) : bcT S x k = S k := by unfold bcT; rw [st_ne h, st_ne h, st_ne h]
theorem bec_1 (N : Nat) (S : St) {x : Nat} (hx : x < 3) : ∃ S', f_X2_become N S x (3 + x) = some ((), S') ∧ (∀ k, k ≠ 20 + x → k ≠ 26 + x → S' k = S k) ∧ (∀ s, s < 3 → S' (20 + x) s = S (20 + (3 + x)) s) ∧ ∀ j, j < 4 → S' (26 + x) j = S (26 + (3 + x)) j := by
  have hne : 20 + (3 + x) ≠ 20 + x := by omega
  refine ⟨sr (bcT S x) (26 + x) (va_cpy (bcT S x (26 + (3 + x))) (bcT S x (26 + x)) (nI 0).toNatClampNeg (nI 0).toNatClampNeg (nI 4).toNatClampNeg), ?_, ?_, ?_, ?_⟩
  · rw [f_X2_become, bnd_e, bnd_e, bnd_e, if_pos (by decide), bnd_e]
    simp only [st_ne hne]
    rfl
  · intro k h1 h2
    rw [sr_ne h2, bcT_ne h1]
  · intro s hs
    rw [sr_ne (by omega)]
    unfold bcT
    rcases (show s = 0 ∨ s = 1 ∨ s = 2 by omega) with rfl | rfl | rfl
    · rw [st_n (by decide), st_n (by decide), st_s]
    · rw [st_n (by decide), st_s]
    · rw [st_s]
  · intro j hj
    rw [sr_s, bcT_ne (by omega)]
    have e0 : (nI 0).toNatClampNeg = 0 := rfl
    have e4 : (nI 4).toNatClampNeg = 4 := rfl
    rw [e0, e4]
    unfold va_cpy
    rw [if_pos ⟨Nat.zero_le _, by omega⟩]
    congr 1
    omega
theorem bec_l {N : Nat} : ∀ (d x g : Nat) (S : St), x + d = 3 → d < g → ∃ S', f_X0_become_10 N g S (nI x) = cal (f_X0_forget N S' (nI 0)) (fun _ S1 => some ((), S1)) ∧ (∀ k, ¬ (20 ≤ k ∧ k < 23) → ¬ (26 ≤ k ∧ k < 29) → S' k = S k) ∧ (∀ e, e < x → S' (20 + e) = S (20 + e) ∧ S' (26 + e) = S (26 + e)) ∧ ∀ e, x ≤ e → e < 3 → (∀ s, s < 3 → S' (20 + e) s = S (20 + (3 + e)) s) ∧ ∀ j, j < 4 → S' (26 + e) j = S (26 + (3 + e)) j := by
  intro d
  induction d with
  | zero =>
    intro x g S hx hg
    obtain ⟨g, rfl⟩ : ∃ e, g = e + 1 := ⟨g - 1, by omega⟩
    exact ⟨S, by rw [f_X0_become_10, if_pos (nI_le (by omega) (by omega))], fun _ _ _ => rfl, fun _ _ => ⟨rfl, rfl⟩, fun e h1 h2 => by omega⟩
  | succ d ih =>
    intro x g S hx hg
    obtain ⟨g, rfl⟩ : ∃ e, g = e + 1 := ⟨g - 1, by omega⟩
    obtain ⟨S1, b1, b2, b3, b4⟩ := bec_1 N S (x := x) (by omega)
    obtain ⟨S', d1, d2, d3, d4⟩ := ih (x + 1) g S1 (by omega) (by omega)
    have hin : inb (nI x) 3 = true := (inb_i (by omega)).mpr (by omega)
    refine ⟨S', ?_, fun k h1 h2 => (d2 k h1 h2).trans (b2 k (by omega) (by omega)), fun e he => ?_, fun e h1 h2 => ?_⟩
    · rw [f_X0_become_10, if_neg (nI_ge (by omega) (by omega)), if_pos hin, if_pos hin, n_cl (by omega), b1, cal_s, bnd_e, n_add, d1]
    · obtain ⟨e1, e2⟩ := d3 e (by omega)
      exact ⟨e1.trans (b2 _ (by omega) (by omega)), e2.trans (b2 _ (by omega) (by omega))⟩
    · by_cases ee : e = x
      · subst ee
        obtain ⟨e1, e2⟩ := d3 e (by omega)
        rw [e1, e2]
        exact ⟨b3, b4⟩
      · obtain ⟨e1, e2⟩ := d4 e (by omega) h2
        rw [b2 (20 + (3 + e)) (by omega) (by omega)] at e1
        rw [b2 (26 + (3 + e)) (by omega) (by omega)] at e2
        exact ⟨e1, e2⟩
theorem become_ok {N : Nat} (hN : 23300 ≤ N) {S : St} {c : List Mac} (hc : okC c) (h41 : S 4 1 = nI c.length) (hR : RdCs S c) : ∃ S', f_X0_become N S = some ((), S') ∧ KC S' c ∧ ∀ k, k ≠ 1 → k ≠ 3 → ¬ (20 ≤ k ∧ k < 23) → ¬ (26 ≤ k ∧ k < 29) → S' k = S k := by
  have h3 := hc.1
  obtain ⟨S1, b1, b2, b3, b4⟩ := bec_l (N := N) 3 0 N (st S 1 0 (nI c.length)) (by omega) (by omega)
  obtain ⟨S2, d1, d2, d3⟩ := forget_ok hN S1 (i := 0) (by decide)
  refine ⟨S2, ?_, ⟨hc, ⟨?_, fun i m hm => ?_⟩, fun i x hi hx => Or.inl ?_⟩, fun k h1 h2 h4 h5 => (d2 k h2).trans ((b2 k h4 h5).trans (st_ne h1))⟩
  · rw [f_X0_become, h41, bnd_e, bnd_e, b1, d1, cal_s]
  · rw [d2 1 (by decide), b2 1 (by omega) (by omega), st_s]
  · have hi := mac_lt hm
    obtain ⟨r1, r2, r3, r4⟩ := hR i m hm
    obtain ⟨e1, e2⟩ := b4 i (Nat.zero_le _) (by omega)
    rw [d2 (20 + i) (by omega), d2 (26 + i) (by omega), e1 0 (by decide), e1 1 (by decide), e1 2 (by decide), st_ne (by omega)]
    refine ⟨r1, r2, r3, fun j k hk => ?_⟩
    have hj := (List.getElem?_eq_some_iff.mp hk).1
    have h4 := (hc.2 i m hm).2.2.2.2.1
    rw [e2 j (by omega), st_ne (by omega)]
    exact r4 j k hk
  · rw [d3, if_pos (by omega)]; rfl
theorem RC.E {S S' : St} {a : Ab} (h : RC S a) (hf : frE S S') (h42 : (S' 4 2).toNatClampNeg < 3) : RC S' a := by
  obtain ⟨k0, k1, k2, k3, k4, k5, k6, k7, k8⟩ := h
  have h0 := hf 0 (by omega) (by omega) (by omega)
  refine ⟨k0, k1.eq (hf 1 (by omega) (by omega) (by omega)) (hf 3 (by omega) (by omega) (by omega)) (fun i hi => ⟨hf _ (by omega) (by omega) (by omega), hf _ (by omega) (by omega) (by omega)⟩), h0 ▸ k2, h0 ▸ k3, h0 ▸ k4, h0 ▸ k5, ⟨h0 ▸ k6.1, fun r q hq => ?_⟩, fun j hj => ?_, h42⟩
  · rw [hf 10 (by omega) (by omega) (by omega), hf 11 (by omega) (by omega) (by omega)]; exact k6.2 r q hq
  · rw [hf (12 + j) (by omega) (by omega) (by omega), hf (16 + j) (by omega) (by omega) (by omega)]; exact k7 j hj
theorem frE.C {S S' : St} (h : frE S S') : frC S S' := fun k hk => h k (by omega) (by omega) (by omega)
theorem RM.G {S S' : St} {a : Ab} (h : RM S a) (hf : frG S S') : RM S' a := by
  have := h.re (S' := S') (fun k hk => hf.1 k (by omega) (by omega) (by omega) (by omega) (by omega)) ⟨hf.2 5 (by decide) (by decide), hf.2 27 (by decide) (by decide), hf.2 28 (by decide) (by decide), hf.2 32 (by decide) (by decide)⟩ h.1.2.1 ((hf.2 7 (by decide) (by decide)).trans h.2.2.1) ((hf.2 6 (by decide) (by decide)).trans h.2.2.2.1) ((hf.2 1 (by decide) (by decide)).trans h.2.2.2.2.1) ((hf.2 0 (by decide) (by decide)).trans h.2.2.2.2.2.1)
  exact this
theorem frG.M {S S' : St} (h : frG S S') : frM S S' := fun k hk => h.1 k (by omega) (by omega) (by omega) (by omega) (by omega)
/-- the reference takes what was read -/
theorem mc_149 {N : Nat} (k95 : St → Int32 → Option (Int32 × St)) {x : Nat} (hx : x < 3) : ∀ (d y g : Nat) (S : St), y + d = 4 → d < g → ∃ S', f_X7_macros_149 N k95 g S (nI x) (nI y) = k95 S' (nI (x + 1)) ∧ (∀ k, k ≠ 39 → S' k = S k) ∧ ∀ q, S' 39 q = if 4 * x + y ≤ q ∧ q < 4 * x + 4 then S 43 q else S 39 q := by
  intro d
  induction d with
  | zero =>
    intro y g S hy hg
    obtain ⟨g, rfl⟩ : ∃ e, g = e + 1 := ⟨g - 1, by omega⟩
    exact ⟨S, by rw [f_X7_macros_149, if_pos (nI_le (by omega) (by omega)), bnd_e, n_add], fun _ _ => rfl, fun q => by rw [if_neg (by omega)]⟩
  | succ d ih =>
    intro y g S hy hg
    obtain ⟨g, rfl⟩ : ∃ e, g = e + 1 := ⟨g - 1, by omega⟩
    obtain ⟨S', b1, b2, b3⟩ := ih (y + 1) g (st S 39 (4 * x + y) (S 43 (4 * x + y))) (by omega) (by omega)
    have hin : inb (nI (4 * x + y)) 12 = true := (inb_i (by omega)).mpr (by omega)
    refine ⟨S', ?_, fun k hk => (b2 k hk).trans (st_ne hk), fun q => ?_⟩
    · rw [f_X7_macros_149, if_neg (nI_ge (by omega) (by omega)), n_mul, n_add, if_pos hin, if_pos hin, n_cl (by omega), bnd_e, bnd_e, n_add, b1]
    · rw [b3 q, st_ne (a := 43) (by decide)]
      by_cases e : q = 4 * x + y
      · subst e
        rw [if_neg (by omega), st_s, if_pos (by omega)]
      · rw [st_n e]
        by_cases h : 4 * x + y ≤ q ∧ q < 4 * x + 4
        · rw [if_pos h, if_pos (by omega)]
        · rw [if_neg h, if_neg (by omega)]
def endM (S : St) : St := st (st (st (st S 32 7 (nI 0)) 32 6 (nI 0)) 32 32 (nI 0)) 32 27 (nI 0)
theorem mc_95 {N : Nat} (hN : 5 ≤ N) {L : Nat} (hL : L ≤ 3) : ∀ (d x g : Nat) (S : St), x + d = L → d < g → S 32 5 = nI L → ∃ S', f_X7_macros_95 N g S (nI x) = some (nI L, endM S') ∧ (∀ k, k ≠ 36 → k ≠ 37 → k ≠ 38 → k ≠ 39 → S' k = S k) ∧ (∀ e, S' 36 e = (if x ≤ e ∧ e < L then S 40 e else S 36 e) ∧ S' 37 e = (if x ≤ e ∧ e < L then S 41 e else S 37 e) ∧ S' 38 e = (if x ≤ e ∧ e < L then S 42 e else S 38 e)) ∧ ∀ q, S' 39 q = if 4 * x ≤ q ∧ q < 4 * L then S 43 q else S 39 q := by
  intro d
  induction d with
  | zero =>
    intro x g S hx hg h5
    obtain ⟨g, rfl⟩ : ∃ e, g = e + 1 := ⟨g - 1, by omega⟩
    refine ⟨S, ?_, fun _ _ _ _ _ => rfl, fun e => ⟨by rw [if_neg (by omega)], by rw [if_neg (by omega)], by rw [if_neg (by omega)]⟩, fun q => by rw [if_neg (by omega)]⟩
    rw [f_X7_macros_95, h5, if_pos (nI_le (by omega) (by omega)), bnd_e, bnd_e, bnd_e, bnd_e, st_n (by decide), st_n (by decide), st_n (by decide), st_n (by decide), h5]
    rfl
  | succ d ih =>
    intro x g S hx hg h5
    obtain ⟨g, rfl⟩ : ∃ e, g = e + 1 := ⟨g - 1, by omega⟩
    have hin : inb (nI x) 3 = true := (inb_i (by omega)).mpr (by omega)
    obtain ⟨S1, b1, b2, b3⟩ := mc_149 (N := N) (f_X7_macros_95 N g) (x := x) (by omega) 4 0 N (st (st (st S 36 x (S 40 x)) 37 x (S 41 x)) 38 x (S 42 x)) (by omega) (by omega)
    obtain ⟨S', d1, d2, d3, d4⟩ := ih (x + 1) g S1 (by omega) (by omega) (by rw [b2 32 (by decide), st_ne (by decide), st_ne (by decide), st_ne (by decide)]; exact h5)
    refine ⟨S', ?_, fun k h1 h2 h3 h4 => (d2 k h1 h2 h3 h4).trans ((b2 k h4).trans (by rw [st_ne h3, st_ne h2, st_ne h1])), fun e => ?_, fun q => ?_⟩
    · rw [f_X7_macros_95, h5, if_neg (nI_ge (by omega) (by omega)), if_pos hin, if_pos hin, n_cl (by omega), bnd_e, if_pos hin, if_pos hin, st_ne (a := 41) (by decide), bnd_e, if_pos hin, if_pos hin, st_ne (a := 42) (by decide), st_ne (a := 42) (by decide), bnd_e, bnd_e, b1, d1]
    · obtain ⟨e1, e2, e3⟩ := d3 e
      rw [e1, e2, e3, b2 36 (by decide), b2 37 (by decide), b2 38 (by decide), b2 40 (by decide), b2 41 (by decide), b2 42 (by decide)]
      rw [st_ne (a := 40) (by decide), st_ne (a := 40) (by decide), st_ne (a := 40) (by decide), st_ne (a := 41) (by decide), st_ne (a := 41) (by decide), st_ne (a := 41) (by decide), st_ne (a := 42) (by decide), st_ne (a := 42) (by decide), st_ne (a := 42) (by decide)]
      rw [st_ne (a := 36) (by decide), st_ne (a := 36) (by decide), st_ne (a := 37) (by decide)]
      by_cases ee : e = x
      · have hn : ¬ (x + 1 ≤ e ∧ e < L) := by omega
        have hp : x ≤ e ∧ e < L := by omega
        rw [if_neg hn, if_neg hn, if_neg hn, if_pos hp, if_pos hp, if_pos hp]
        subst ee
        rw [st_s, st_s, st_s]
        exact ⟨rfl, rfl, rfl⟩
      · rw [st_n ee, st_n ee, st_ne (a := 37) (by decide), st_n ee]
        rw [st_ne (a := 38) (by decide), st_ne (a := 38) (by decide)]
        by_cases h : x ≤ e ∧ e < L
        · have h' : x + 1 ≤ e ∧ e < L := by omega
          rw [if_pos h', if_pos h', if_pos h', if_pos h, if_pos h, if_pos h]
          exact ⟨rfl, rfl, rfl⟩
        · have h' : ¬ (x + 1 ≤ e ∧ e < L) := by omega
          rw [if_neg h', if_neg h', if_neg h', if_neg h, if_neg h, if_neg h]
          exact ⟨rfl, rfl, rfl⟩
    · rw [d4 q, b3 q, b2 43 (by decide), st_ne (a := 43) (by decide), st_ne (a := 43) (by decide), st_ne (a := 43) (by decide), st_ne (a := 39) (by decide), st_ne (a := 39) (by decide), st_ne (a := 39) (by decide)]
      by_cases h1 : 4 * (x + 1) ≤ q ∧ q < 4 * L
      · rw [if_pos h1, if_pos (by omega)]
      · rw [if_neg h1]
        by_cases h2 : 4 * x + 0 ≤ q ∧ q < 4 * x + 4
        · rw [if_pos h2, if_pos (by omega)]
        · rw [if_neg h2, if_neg (by omega)]
theorem b_macros {N : Nat} (hN : 23300 ≤ N) (x y i n : Int32) : Both (fun S => f_X6_macros N S x y i n) (fun S => f_X7_macros N S x y i n) := by
  refine Both.of fun a ha => ?_
  have h3 := ha.1.1
  rcases is_sh x with hx | ⟨j, hj, rfl⟩
  · refine ⟨-1, A5 a (nI 0), fun S hC => ⟨st S 0 10 (nI 0), ?_, hC.flt _, frC.st (by decide) S _ _⟩, fun S hM => ⟨st S 32 0 (nI 0), ?_, hM.flt _, frM.st (by decide) S _ _⟩⟩
    · show f_X6_macros N S x y i n = _
      rw [f_X6_macros, bnd_e, sheetOf_no N _ hx, cal_s, opt_0]
    · show f_X7_macros N S x y i n = _
      rw [f_X7_macros, bnd_e, isSheet_no N _ hx, cal_s, if_pos nI_0]
  rcases is_ln y with hy | ⟨t, ht, rfl⟩
  · refine ⟨-2, A5 a (nI 0), fun S hC => ⟨st S 0 10 (nI 0), ?_, hC.flt _, frC.st (by decide) S _ _⟩, fun S hM => ⟨st S 32 0 (nI 0), ?_, hM.flt _, frM.st (by decide) S _ _⟩⟩
    · show f_X6_macros N S (nI j) y i n = _
      rw [f_X6_macros, bnd_e, sheetOf_ok N _ hj, cal_s, opt_1, if_pos hj, (isLane_no N _ hy).1, cal_s, if_pos nI_0]
    · show f_X7_macros N S (nI j) y i n = _
      rw [f_X7_macros, bnd_e, isSheet_ok N _ hj, cal_s, if_neg (by decide), (isLane_no N _ hy).2, cal_s, if_pos nI_0]
  have hC2 : ∀ S, RC S a → f_X6_macros N S (nI j) (nI t) i n = (fun S9 => if nI (flt (a.2.2.2.2.2.2 j) (nI t) i n) = (0 : Int32) then cal (f_X3_firstFault N S9 j i n) (fun r14 S12 => if r14 = (-9 : Int32) then cal (f_X0_become N S12) (fun _ S15 => bnd (st S15 0 7 (nI 0)) (fun S18 => bnd (st S18 0 8 (nI 0)) (fun S19 => bnd (st S19 0 6 (nI 0)) (fun S20 => some (S20 1 0, S20))))) else some ((-100 : Int32) - r14, S12)) else cal (f_X6_meet N S9 (nI (flt (a.2.2.2.2.2.2 j) (nI t) i n))) (fun r23 S21 => some (r23, S21))) (st S 0 10 (nI 0)) := fun S hC => by
    rw [f_X6_macros, bnd_e, sheetOf_ok N _ hj, cal_s, opt_1, if_pos hj, (isLane_ok N _ ht).1, cal_s, if_neg (by decide), faultOf_ok N (hC.flt (nI 0)).2.2.2.2.2.2.2.1 hj (fun q hq => ha.2.2.2 j q hq), cal_s]
  have hM2 : ∀ S, RM S a → f_X7_macros N S (nI j) (nI t) i n = (fun S8 => if nI (flt (a.2.2.2.2.2.2 j) (nI t) i n) = (0 : Int32) then bnd (((nI 60) * nI j) + i) (fun y11 => bnd (st S8 32 12 y11) (fun S12 => cal (f_X7_readMacrosAll N S12 (y11 + n)) (fun r15 S13 => if r15 = (0 : Int32) then some ((-100 : Int32) - ((S13 32 12) - y11), S13) else bnd (st S13 32 5 (S13 32 13)) (fun S16 => bnd ((nI 0)) (fun y17 => f_X7_macros_95 N N S16 y17))))) else cal (f_X7_fails N S8 (nI (flt (a.2.2.2.2.2.2 j) (nI t) i n))) (fun r20 S18 => some (r20, S18))) (st S 32 0 (nI 0)) := fun S hM => by
    rw [f_X7_macros, bnd_e, isSheet_ok N _ hj, cal_s, if_neg (by decide), (isLane_ok N _ ht).2, cal_s, if_neg (by decide), against_ok N (hM.flt (nI 0)).2.2.2.2.2.2.2.1 hj (fun q hq => ha.2.2.2 j q hq), cal_s]
  by_cases hz0 : flt (a.2.2.2.2.2.2 j) (nI t) i n = 0
  · cases hs : a.2.2.2.2.2.2 j with
    | none => rw [hs] at hz0; cases hz0
    | some q =>
    obtain ⟨q1, q2⟩ := ha.2.2.2 j q hs
    rw [hz0] at hC2 hM2
    rw [hs] at hz0
    obtain ⟨-, i, n, rfl, rfl, hin⟩ := flt_0 hz0
    obtain ⟨xs, hxs⟩ : ∃ xs : List Int32, xs = (List.range n).map (fun p => q.2.2 (i + p)) := ⟨_, rfl⟩
    have hxl : xs.length = n := by rw [hxs, List.length_map, List.length_range]
    have hxe : ∀ p z, xs[p]? = some z → p < n ∧ z = q.2.2 (i + p) := fun p z hz => by
      have hp := (List.getElem?_eq_some_iff.mp hz).1
      rw [hxl] at hp
      rw [hxs, List.getElem?_map, List.getElem?_range hp] at hz
      exact ⟨hp, (Option.some.inj hz).symm⟩
    have hAC : ∀ S, RC S a → AtC (st S 0 10 (nI 0)) (16 + j) (i + n) xs := fun S hC => ⟨by omega, fun p z hz => by
      obtain ⟨hp, rfl⟩ := hxe p z hz
      rw [hxl, show i + n - n + p = i + p by omega]
      exact (((hC.flt (nI 0)).2.2.2.2.2.2.2.1 j hj).2 q hs).2.2 (i + p) (by omega)⟩
    have hAM : ∀ S, RM S a → AtC (st (st S 32 0 (nI 0)) 32 12 (nI (60 * j + i))) 35 (60 * j + i + n) xs := fun S hM => ⟨by omega, fun p z hz => by
      obtain ⟨hp, rfl⟩ := hxe p z hz
      rw [hxl, show 60 * j + i + n - n + p = 60 * j + (i + p) by omega, st_ne (by decide)]
      exact (((hM.flt (nI 0)).2.2.2.2.2.2.2.1 j hj).2 q hs).2.2 (i + p) (by omega)⟩
    have hCr := fun (S : St) (hC : RC S a) => first_ok (N := N) (by omega) hj (by omega) (hC.flt (nI 0)).2.2.2.2.2.2.2.2 hxl (hAC S hC)
    have hMr := fun (S : St) (hM : RM S a) => readAll_ok (N := N) (by omega) (e := 60 * j + i + n) (by omega) (by rw [st_s, hxl]; congr 1; omega) (hAM S hM)
    cases hrun : run xs sBeg with
    | inl r =>
      rw [hrun] at hCr hMr
      have hrl := run_le hrun
      refine ⟨(-100 : Int32) - nI (n - r), A5 a (nI 0), fun S hC => ?_, fun S hM => ?_⟩
      · obtain ⟨S', d1, d2, d3⟩ := hCr S hC
        dsimp only at d1
        refine ⟨S', ?_, (hC.flt (nI 0)).E d3 d2, (frC.st (by decide) S _ _).tr d3.C⟩
        show f_X6_macros N S (nI j) (nI t) (nI i) (nI n) = _
        rw [hC2 S hC]; dsimp only
        rw [if_pos nI_0, d1, cal_s, if_neg (n_9 (a := n - r) (by omega))]
      · obtain ⟨S', ⟨d1, d2⟩, d3⟩ := hMr S hM
        have hf : frG (st S 32 0 (nI 0)) S' := (frG.s12 _ _).tr d3
        refine ⟨S', ?_, (hM.flt (nI 0)).G hf, (frM.st (by decide) S _ _).tr hf.M⟩
        show f_X7_macros N S (nI j) (nI t) (nI i) (nI n) = _
        rw [hM2 S hM]; dsimp only
        rw [if_pos nI_0, n_mul, n_add, bnd_e, bnd_e, n_add, d1, cal_s, if_pos nI_0, d2, n_sub (by omega), show 60 * j + i + n - r - (60 * j + i) = n - r by omega]
    | inr c =>
      rw [hrun] at hCr hMr
      have hc : okC c := run_ok (s := sBeg) trivial hrun
      have hcl := hc.1
      refine ⟨nI c.length, (c, (0, 0, 0), nI 0, a.2.2.2.1, nI 0, [], a.2.2.2.2.2.2), fun S hC => ?_, fun S hM => ?_⟩
      · obtain ⟨S1, ⟨d1, d2, d3⟩, d4, d5⟩ := hCr S hC
        obtain ⟨S2, e1, e2, e3⟩ := become_ok hN hc d2 d3
        have hC1 := (hC.flt (nI 0)).E d5 d4
        obtain ⟨k0, k1, k2, k3, k4, k5, k6, k7, k8⟩ := hC1
        have hfr : ∀ k, k ≠ 0 → st (st (st S2 0 7 (nI 0)) 0 8 (nI 0)) 0 6 (nI 0) k = S2 k := fun k hk => by rw [st_ne hk, st_ne hk, st_ne hk]
        have e30 := e3 0 (by omega) (by omega) (by omega) (by omega)
        refine ⟨st (st (st S2 0 7 (nI 0)) 0 8 (nI 0)) 0 6 (nI 0), ?_, ⟨⟨hc, e_ok, ⟨Nat.zero_le _, fun q hq => absurd hq List.not_mem_nil⟩, k0.2.2.2⟩, e2.eq (hfr 1 (by omega)) (hfr 3 (by omega)) (fun i hi => ⟨hfr _ (by omega), hfr _ (by omega)⟩), ?_, ?_, ?_, ?_, ⟨st_s, fun r q hq => (by cases hq)⟩, fun z hz => ?_, ?_⟩, ?_⟩
        · show f_X6_macros N S (nI j) (nI t) (nI i) (nI n) = _
          rw [hC2 S hC]; dsimp only
          rw [if_pos nI_0, d1, cal_s, if_pos rfl, e1, cal_s, bnd_e, bnd_e, bnd_e, hfr 1 (by omega), e2.2.1.1]
        · rw [st_n (by decide), st_n (by decide), st_s]; rfl
        · rw [st_n (by decide), st_s]
        · rw [st_n (by decide), st_n (by decide), st_n (by decide), e30]; exact k4
        · rw [st_n (by decide), st_n (by decide), st_n (by decide), e30]; exact k5
        · rw [hfr _ (by omega), hfr _ (by omega), e3 (12 + z) (by omega) (by omega) (by omega) (by omega), e3 (16 + z) (by omega) (by omega) (by omega) (by omega)]
          exact k7 z hz
        · rw [hfr _ (by omega), e3 4 (by omega) (by omega) (by omega) (by omega)]; exact k8
        · intro k hk
          rw [hfr k (by omega), e3 k (by omega) (by omega) (by omega) (by omega), d5 k (by omega) (by omega) (by omega), st_ne (by omega)]
      · obtain ⟨S1, ⟨d1, d2, d3⟩, d4⟩ := hMr S hM
        have hf : frG (st S 32 0 (nI 0)) S1 := (frG.s12 _ _).tr d4
        have hM1 := (hM.flt (nI 0)).G hf
        obtain ⟨S2, e1, e2, e3, e4⟩ := mc_95 (N := N) (by omega) hcl c.length 0 N (st S1 32 5 (nI c.length)) (by omega) (by omega) st_s
        obtain ⟨k0, k1, k2, k3, k4, k5, k6, k7, k8⟩ := hM1
        have hfr : ∀ k, k ≠ 32 → endM S2 k = S2 k := fun k hk => by unfold endM; rw [st_ne hk, st_ne hk, st_ne hk, st_ne hk]
        have hf32 : ∀ j, j ≠ 7 → j ≠ 6 → j ≠ 32 → j ≠ 27 → endM S2 32 j = S2 32 j := fun j a b c d => by unfold endM; rw [st_n d, st_n c, st_n b, st_n a]
        have e32 : ∀ j, j ≠ 5 → S2 32 j = S1 32 j := fun j hj => by rw [e2 32 (by decide) (by decide) (by decide) (by decide), st_n hj]
        have hok : ∀ k, k ≠ 32 → k ≠ 36 → k ≠ 37 → k ≠ 38 → k ≠ 39 → endM S2 k = S1 k := fun k h h1 h2 h3 h4 => by rw [hfr k h, e2 k h1 h2 h3 h4, st_ne h]
        refine ⟨endM S2, ?_, ⟨⟨hc, e_ok, ⟨Nat.zero_le _, fun q hq => absurd hq List.not_mem_nil⟩, k0.2.2.2⟩, ⟨?_, fun e m hm => ?_⟩, ?_, ?_, ?_, ?_, ⟨?_, fun r q hq => (by cases hq)⟩, fun z hz => ?_, ⟨?_, Or.inl ?_⟩⟩, ?_⟩
        · show f_X7_macros N S (nI j) (nI t) (nI i) (nI n) = _
          rw [hM2 S hM]; dsimp only
          rw [if_pos nI_0, n_mul, n_add, bnd_e, bnd_e, n_add, d1, cal_s, if_neg (by decide), d2, bnd_e, bnd_e, e1]
        · rw [hf32 5 (by decide) (by decide) (by decide) (by decide), e2 32 (by decide) (by decide) (by decide) (by decide), st_s]
        · have he : e < c.length := mac_lt hm
          obtain ⟨r1, r2, r3, r4⟩ := d3 e m hm
          obtain ⟨g1, g2, g3⟩ := e3 e
          rw [hfr 36 (by decide), hfr 37 (by decide), hfr 38 (by decide), hfr 39 (by decide), g1, g2, g3, if_pos ⟨Nat.zero_le _, he⟩, if_pos ⟨Nat.zero_le _, he⟩, if_pos ⟨Nat.zero_le _, he⟩, st_ne (by decide), st_ne (by decide), st_ne (by decide)]
          refine ⟨r1, r2, r3, fun p k hk => ?_⟩
          have hp := (List.getElem?_eq_some_iff.mp hk).1
          have h4 := (hc.2 e m hm).2.2.2.2.1
          rw [e4, if_pos (by omega), st_ne (by decide)]
          exact r4 p k hk
        · unfold endM; rw [st_n (by decide), st_n (by decide), st_n (by decide), st_s]; rfl
        · unfold endM; rw [st_n (by decide), st_n (by decide), st_s]
        · rw [hf32 1 (by decide) (by decide) (by decide) (by decide), e32 1 (by decide)]; exact k4
        · rw [hf32 0 (by decide) (by decide) (by decide) (by decide), e32 0 (by decide)]; exact k5
        · unfold endM; rw [st_n (by decide), st_s]; rfl
        · rw [hok 33 (by decide) (by decide) (by decide) (by decide) (by decide), hok 34 (by decide) (by decide) (by decide) (by decide) (by decide), hok 35 (by decide) (by decide) (by decide) (by decide) (by decide)]
          exact k7 z hz
        · rw [hf32 28 (by decide) (by decide) (by decide) (by decide), e32 28 (by decide)]
          unfold mkP
          rw [hok 49 (by decide) (by decide) (by decide) (by decide) (by decide)]
          exact k8.1
        · unfold endM; rw [st_s]
        · intro k hk
          rw [hok k (by omega) (by omega) (by omega) (by omega) (by omega), hf.1 k (by omega) (by omega) (by omega) (by omega) (by omega), st_ne (by omega)]
  · have hlt := flt_lt (a.2.2.2.2.2.2 j) (nI t) i n
    generalize flt (a.2.2.2.2.2.2 j) (nI t) i n = v at hz0 hlt hC2 hM2
    have hv : ¬ nI v = 0 := by rw [z_eq (by omega)]; exact hz0
    refine ⟨(-10 : Int32) - nI v, A5 a (nI v), fun S hC => ⟨st (st S 0 10 (nI 0)) 0 10 (nI v), ?_, (hC.flt _).flt _, (frC.st (by decide) S _ _).tr (frC.st (by decide) _ _ _)⟩, fun S hM => ⟨st (st S 32 0 (nI 0)) 32 0 (nI v), ?_, (hM.flt _).flt _, (frM.st (by decide) S _ _).tr (frM.st (by decide) _ _ _)⟩⟩
    · show f_X6_macros N S (nI j) (nI t) i n = _
      rw [hC2 S hC]; dsimp only
      rw [if_neg hv, meet_at, cal_s]
    · show f_X7_macros N S (nI j) (nI t) i n = _
      rw [hM2 S hM]; dsimp only
      rw [if_neg hv, fails_at, cal_s]
