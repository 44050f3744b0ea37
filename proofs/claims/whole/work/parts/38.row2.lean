/-! row: the reference's side, and both -/
def frR (S S' : St) : Prop := (∀ k, k ≠ 32 → k ≠ 45 → k ≠ 46 → k ≠ 47 → k ≠ 48 → S' k = S k) ∧ ∀ j, j ≠ 20 → j ≠ 21 → j ≠ 22 → j ≠ 26 → S' 32 j = S 32 j
theorem frR.rf (S : St) : frR S S := ⟨fun _ _ _ _ _ _ => rfl, fun _ _ _ _ _ => rfl⟩
theorem frR.tr {S T U : St} (h : frR S T) (g : frR T U) : frR S U := ⟨fun k a b c d e => (g.1 k a b c d e).trans (h.1 k a b c d e), fun j a b c d => (g.2 j a b c d).trans (h.2 j a b c d)⟩
theorem frP.R {D : Nat} {S S' : St} (h : frP D S S') : frR S S' := ⟨h.1, fun j a b c _ => h.2.1 j a b c⟩
theorem frW.R {S S' : St} (h : frW S S') : frR S S' := (h.P (D := 0)).R
theorem frR.st26 (S : St) (v : Int32) : frR S (st S 32 26 v) := ⟨fun k a _ _ _ _ => st_ne a, fun j _ _ _ a => st_n a⟩
theorem frR.M {S S' : St} (h : frR S S') : frM S S' := fun k hk => h.1 k (by omega) (by omega) (by omega) (by omega) (by omega)
theorem RM.R {S S' : St} {a : Ab} (h : RM S a) (hf : frR S S') : RM S' a := by
  have := h.re (S' := S') (fun k hk => hf.1 k (by omega) (by omega) (by omega) (by omega) (by omega)) ⟨hf.2 5 (by decide) (by decide) (by decide) (by decide), hf.2 27 (by decide) (by decide) (by decide) (by decide), hf.2 28 (by decide) (by decide) (by decide) (by decide), hf.2 32 (by decide) (by decide) (by decide) (by decide)⟩ h.1.2.1 ((hf.2 7 (by decide) (by decide) (by decide) (by decide)).trans h.2.2.1) ((hf.2 6 (by decide) (by decide) (by decide) (by decide)).trans h.2.2.2.1) ((hf.2 1 (by decide) (by decide) (by decide) (by decide)).trans h.2.2.2.2.1) ((hf.2 0 (by decide) (by decide) (by decide) (by decide)).trans h.2.2.2.2.2.1)
  exact this
theorem CfM.R {S S' : St} {c : List Mac} (h : CfM S c) (hf : frR S S') : CfM S' c := h.eq (hf.2 5 (by decide) (by decide) (by decide) (by decide)) ⟨hf.1 36 (by decide) (by decide) (by decide) (by decide) (by decide), hf.1 37 (by decide) (by decide) (by decide) (by decide) (by decide), hf.1 38 (by decide) (by decide) (by decide) (by decide) (by decide), hf.1 39 (by decide) (by decide) (by decide) (by decide) (by decide)⟩
theorem goRow_loop {N : Nat} (hN : 15100 ≤ N) {c : List Mac} (hc : okC c) {f : Nat → Int32} {x0 i n : Nat} (hx : x0 + n ≤ 240) (hn : n ≤ 20) (hk : ∀ p, p < n → f (i + p) = nI (f (i + p)).toNatClampNeg ∧ (f (i + p)).toNatClampNeg < 8 + c.length) : ∀ (d p g : Nat) (S : St) (s : Ln × Nat × Int32), p + d = n → d < g → CfM S c → (∀ q, q < n → S 35 (x0 + q) = f (i + q)) → Reg S s.1 → S 32 22 = nI s.2.1 → S 32 26 = s.2.2 → ∃ S', f_X7_goRow_21 N g S (nI x0) (nI n) (nI p) = some ((), S') ∧ Reg S' (rowR c (fun p => (f (i + p)).toNatClampNeg) d p s).1 ∧ S' 32 22 = nI (rowR c (fun p => (f (i + p)).toNatClampNeg) d p s).2.1 ∧ S' 32 26 = (rowR c (fun p => (f (i + p)).toNatClampNeg) d p s).2.2 ∧ frR S S' := by
  have h3 := hc.1
  intro d
  induction d with
  | zero =>
    intro p g S s hp hg hM hf hR hb hfb
    obtain ⟨g, rfl⟩ : ∃ e, g = e + 1 := ⟨g - 1, by omega⟩
    rw [f_X7_goRow_21, if_pos (nI_le (by omega) (by omega))]
    exact ⟨S, rfl, hR, hb, hfb, frR.rf S⟩
  | succ d ih =>
    intro p g S s hp hg hM hf hR hb hfb
    obtain ⟨g, rfl⟩ : ∃ e, g = e + 1 := ⟨g - 1, by omega⟩
    obtain ⟨k1, k2⟩ := hk p (by omega)
    rw [f_X7_goRow_21, if_neg (nI_ge (by omega) (by omega)), n_add, if_pos ((inb_i (by omega)).mpr (by omega)), bnd_e, n_cl (by omega), hf p (by omega), k1]
    generalize hkk : (f (i + p)).toNatClampNeg = k at k1 k2
    have hrow : rowR c (fun p => (f (i + p)).toNatClampNeg) (d + 1) p s = rowR c (fun p => (f (i + p)).toNatClampNeg) d (p + 1) (rowS c k p s) := by
      show rowR c (fun p => (f (i + p)).toNatClampNeg) d (p + 1) (rowS c (f (i + p)).toNatClampNeg p s) = _
      rw [hkk]
    rw [hrow]
    -- the state behind this key
    obtain ⟨S1, e1, e2, e3, e4, e5⟩ : ∃ S1, (if nI k < nI 8 then cal (f_X7_presses N S (nI k)) (fun r4 S2 => if r4 = (0 : Int32) then if (S2 32 26) = (-9 : Int32) then bnd (st S2 32 26 (nI p)) (fun S7 => bnd (nI p + nI 1) (fun y8 => f_X7_goRow_21 N g S7 (nI x0) (nI n) y8)) else bnd (nI p + nI 1) (fun y6 => f_X7_goRow_21 N g S2 (nI x0) (nI n) y6) else bnd (nI p + nI 1) (fun y5 => f_X7_goRow_21 N g S2 (nI x0) (nI n) y5)) else cal (f_X7_plays N S (nI k - nI 8)) (fun _ S9 => bnd (nI p + nI 1) (fun y12 => f_X7_goRow_21 N g S9 (nI x0) (nI n) y12))) = f_X7_goRow_21 N g S1 (nI x0) (nI n) (nI (p + 1)) ∧ Reg S1 (rowS c k p s).1 ∧ S1 32 22 = nI (rowS c k p s).2.1 ∧ S1 32 26 = (rowS c k p s).2.2 ∧ frR S S1 := by
      by_cases c8 : k < 8
      · obtain ⟨S2, b1, b2, b3, b4⟩ := presses_ok (N := N) (by omega) S hR c8
        have hke : keyE (ef c) k (s.1, 0) = (act k s.1, b01 (bmp k s.1)) := by
          unfold keyE; rw [if_pos c8]; dsimp only; rw [Nat.zero_add]
        have b5 : S2 32 26 = s.2.2 := (b3.2 26 (by decide) (by decide) (by decide)).trans hfb
        have hS : rowS c k p s = (act k s.1, s.2.1 + b01 (bmp k s.1), if s.2.2 = -9 ∧ k < 8 ∧ bmp k s.1 = true then nI p else s.2.2) := by unfold rowS; rw [hke]
        rw [if_pos (nI_lt c8 (by omega)), b1, cal_s, b5, bnd_e, bnd_e, bnd_e, n_add, hS]
        rw [hb, n_add] at b4
        by_cases c1 : bmp k s.1 = true
        · rw [c1] at b4 ⊢
          rw [if_pos (by rfl)]
          by_cases c9 : s.2.2 = -9
          · rw [if_pos c9, if_pos ⟨c9, c8, rfl⟩]
            exact ⟨_, rfl, ⟨b2.1, by rw [st_n (by decide)]; exact b2.2.1, by rw [st_n (by decide)]; exact b2.2.2.1, fun q hq => by rw [st_ne (by decide)]; exact b2.2.2.2 q hq⟩, by rw [st_n (by decide)]; exact b4, st_s, b3.R.tr (frR.st26 _ _)⟩
          · rw [if_neg c9, if_neg (fun z => c9 z.1)]
            exact ⟨S2, rfl, b2, b4, b5, b3.R⟩
        · rw [ts_nt' c1] at b4 ⊢
          rw [if_neg (by decide), if_neg (fun z => by cases z.2.2)]
          exact ⟨S2, rfl, b2, b4, b5, b3.R⟩
      · obtain ⟨S2, b1, b2, b3, b4⟩ := plays_ok hN hc hM hR (i := k - 8) (by omega)
        have hke : keyE (ef c) k (s.1, 0) = ef c (k - 8) s.1 := by
          unfold keyE; rw [if_neg c8]; dsimp only; rw [Nat.zero_add]
        have hS : rowS c k p s = ((ef c (k - 8) s.1).1, s.2.1 + (ef c (k - 8) s.1).2, s.2.2) := by unfold rowS; rw [hke, if_neg (fun z => c8 z.2.1)]
        rw [if_neg (nI_nlt (by omega) (by omega)), n_sub (by omega), b1, cal_s, bnd_e, n_add, hS]
        rw [hb, n_add] at b3
        exact ⟨S2, rfl, b2, b3, (b4.2.1 26 (by decide) (by decide) (by decide)).trans hfb, b4.R⟩
    rw [e1]
    obtain ⟨S', q1, q2, q3, q4, q5⟩ := ih (p + 1) g S1 (rowS c k p s) (by omega) (by omega) (hM.R e5) (fun q hq => by rw [e5.1 35 (by decide) (by decide) (by decide) (by decide) (by decide)]; exact hf q hq) e2 e3 e4
    exact ⟨S', q1, q2, q3, q4, e5.tr q5⟩
theorem tell_loop {N : Nat} {S : St} {l : Ln} (h : Reg S l) : ∀ (d p g : Nat), p + d = l.1 → d < g → f_X7_tellRow_88 N g S (nI (dgs l p)) (nI p) = some (nI (dgs l l.1), S) := by
  have h5 := h.1.1
  intro d
  induction d with
  | zero =>
    intro p g hp hg
    obtain ⟨g, rfl⟩ : ∃ e, g = e + 1 := ⟨g - 1, by omega⟩
    rw [f_X7_tellRow_88, h.2.1, if_pos (nI_le (by omega) (by omega)), show p = l.1 by omega]
  | succ d ih =>
    intro p g hp hg
    obtain ⟨g, rfl⟩ : ∃ e, g = e + 1 := ⟨g - 1, by omega⟩
    rw [f_X7_tellRow_88, h.2.1, if_neg (nI_ge (by omega) (by omega)), if_pos ((inb_i (by omega)).mpr (by omega)), bnd_e, bnd_e, n_cl (by omega), h.2.2.2 p (by omega), n_mul, n_add, n_add, n_add, ← ih (p + 1) g (by omega) (by omega)]
    show f_X7_tellRow_88 N g S (nI (10 * dgs l p + dg l p + 1)) (nI (p + 1)) = f_X7_tellRow_88 N g S (nI (dgs l p * 10 + dg l p + 1)) (nI (p + 1))
    rw [Nat.mul_comm]
theorem tellRow_ok {N : Nat} (hN : 7 ≤ N) {S : St} {s : Ln × Nat × Int32} (h : Reg S s.1) (hb : S 32 22 = nI s.2.1) (hf : S 32 26 = s.2.2) {w : Nat} (hw : w ≤ 4 ∨ 10 ≤ w ∧ w ≤ 14) : f_X7_tellRow N S (nI w) = some (rowA w s, S) := by
  have h5 := h.1.1
  rw [f_X7_tellRow]
  unfold rowA
  rcases hw with hw | ⟨w1, w2⟩
  · rw [if_pos (nI_lt (by omega) (by omega)), bnd_e, h.2.1, h.2.2.1, hb, hf, bnd_e, bnd_e]
    have ht := tell_loop (N := N) h s.1.1 0 N (by omega) (by omega)
    have ht : f_X7_tellRow_88 N N S (nI 0) (nI 0) = some (nI (dgs s.1 s.1.1), S) := ht
    rw [ht]
    rcases (show w = 0 ∨ w = 1 ∨ w = 2 ∨ w = 3 ∨ w = 4 by omega) with rfl | rfl | rfl | rfl | rfl <;> rfl
  · rw [if_neg (nI_nlt (by omega) (by omega)), n_sub w1, h.2.1, if_neg (show ¬ w = 0 by omega), if_neg (show ¬ w = 1 by omega), if_neg (show ¬ w = 2 by omega), if_neg (show ¬ w = 3 by omega), if_neg (show ¬ w = 4 by omega)]
    by_cases cl : w - 10 < s.1.1
    · rw [if_neg (nI_ge cl (by omega)), if_pos cl, if_pos ((inb_i (by omega)).mpr (by omega)), n_cl (by omega), h.2.2.2 _ cl]
    · rw [if_pos (nI_le (by omega) (by omega)), if_neg cl]
/-- the reference's look at the keys ahead: all in range, and all there -/
theorem row_look {N : Nat} {c : List Mac} (hc : okC c) {S : St} (hM : CfM S c) {f : Nat → Int32} {x0 i n : Nat} (hx : x0 + n ≤ 240) (hf : ∀ q, q < n → S 35 (x0 + q) = f (i + q)) (w : Int32) : ∀ (d p g : Nat) (b : Bool), p + d = n → d < g → (allW f (nI 10) d (i + p) = false → f_X7_row_94 N g S (nI n) w (nI x0) (nI (b01 b)) (nI p) = some ((-2 : Int32), S)) ∧ (allW f (nI 10) d (i + p) = true → f_X7_row_94 N g S (nI n) w (nI x0) (nI (b01 b)) (nI p) = if (b && allW f (nI (7 + c.length)) d (i + p)) = true then cal (f_X7_goRow N S (nI x0) (nI n)) (fun _ S1 => cal (f_X7_tellRow N S1 w) (fun r6 S4 => some (r6, S4))) else some ((-1 : Int32), S)) := by
  have h3 := hc.1
  intro d
  induction d with
  | zero =>
    intro p g b hp hg
    obtain ⟨g, rfl⟩ : ∃ e, g = e + 1 := ⟨g - 1, by omega⟩
    refine ⟨fun h => (by cases h), fun _ => ?_⟩
    rw [f_X7_row_94, if_pos (nI_le (by omega) (by omega))]
    cases b <;> rfl
  | succ d ih =>
    intro p g b hp hg
    obtain ⟨g, rfl⟩ : ∃ e, g = e + 1 := ⟨g - 1, by omega⟩
    have hin : inb (nI (x0 + p)) 240 = true := (inb_i (by omega)).mpr (by omega)
    have hA : ∀ m, allW f m (d + 1) (i + p) = ((!decide (f (i + p) < 0)) && (decide (f (i + p) ≤ m)) && allW f m d (i + (p + 1))) := fun m => rfl
    rw [hA, hA, f_X7_row_94, if_neg (nI_ge (by omega) (by omega)), n_add x0 p, if_pos hin, n_cl (by omega), hf p (by omega)]
    by_cases c1 : f (i + p) < 0 ∨ nI 10 < f (i + p)
    · rw [within_no N S (lo := nI 0) c1, cal_s, if_pos nI_0]
      refine ⟨fun _ => rfl, fun h => ?_⟩
      rw [Bool.and_eq_true, Bool.and_eq_true, Bool.not_eq_true', decide_eq_false_iff_not, decide_eq_true_iff] at h
      rcases c1 with c1 | c1
      · exact absurd c1 h.1.1
      · exact absurd h.1.2 (i_lt_nle c1)
    · obtain ⟨k, -, k10, hk⟩ := rng (lo := 0) (hi := 10) (by decide) (by decide) (fun z => c1 (Or.inl z)) (fun z => c1 (Or.inr z))
      rw [hk, within_in N S (Nat.zero_le _) k10 (by decide), cal_s, if_neg (by decide), decide_eq_false (nI_pos (by omega)), decide_eq_true (nI_le k10 (by omega))]
      have e1 : ∀ z : Bool, (!false && true && z) = z := fun z => rfl
      rw [e1]
      have hstep : ∀ bb : Bool, (f_X7_row_94 N g S (nI n) w (nI x0) (nI (b01 bb)) (nI (p + 1)) = f_X7_row_94 N g S (nI n) w (nI x0) (nI (b01 bb)) (nI (p + 1))) := fun _ => rfl
      cases b with
      | false =>
        rw [if_pos (show nI (b01 false) = 0 from rfl), bnd_e, bnd_e, n_add]
        have := ih (p + 1) g false (by omega) (by omega)
        exact ⟨this.1, fun h => by rw [show nI 0 = nI (b01 false) from rfl, this.2 h]; rfl⟩
      | true =>
        rw [if_neg (by decide), if_pos hin, if_pos hin, hf p (by omega), hk]
        by_cases c8 : k < 8
        · rw [if_pos (nI_lt c8 (by omega)), bnd_e, bnd_e, n_add]
          have := ih (p + 1) g true (by omega) (by omega)
          refine ⟨this.1, fun h => ?_⟩
          rw [show nI 1 = nI (b01 true) from rfl, this.2 h, decide_eq_true (nI_le (show k ≤ 7 + c.length by omega) (by omega)), e1]
        · rw [if_neg (nI_nlt (by omega) (by omega)), n_sub (by omega)]
          by_cases ck : k - 8 < c.length
          · rw [isMacro_ok N hc hM ck, cal_s, if_neg (by decide), bnd_e, bnd_e, n_add]
            have := ih (p + 1) g true (by omega) (by omega)
            refine ⟨this.1, fun h => ?_⟩
            rw [show nI 1 = nI (b01 true) from rfl, this.2 h, decide_eq_true (nI_le (show k ≤ 7 + c.length by omega) (by omega)), e1]
          · rw [isMacro_no N hM _ (Or.inr (nI_le (by omega) (by omega))), cal_s, if_pos nI_0, bnd_e, bnd_e, n_add]
            have := ih (p + 1) g false (by omega) (by omega)
            refine ⟨this.1, fun h => ?_⟩
            rw [show nI 0 = nI (b01 false) from rfl, this.2 h, decide_eq_false (nI_ge (show 7 + c.length < k by omega) (by omega))]
            rfl
theorem ofRow_what (N : Nat) (S : St) (z : Int32) : (f_X6_isOfRow N S z = some (nI 0, S) ∧ f_X7_within N S z (nI 0) (nI 4) = some (nI 0, S) ∧ f_X7_within N S z (nI 10) (nI 14) = some (nI 0, S)) ∨ ∃ w, z = nI w ∧ f_X6_isOfRow N S z = some (nI 1, S) ∧ ((w ≤ 4 ∧ f_X7_within N S z (nI 0) (nI 4) = some (nI 1, S)) ∨ ((10 ≤ w ∧ w ≤ 14) ∧ f_X7_within N S z (nI 0) (nI 4) = some (nI 0, S) ∧ f_X7_within N S z (nI 10) (nI 14) = some (nI 1, S))) := by
  by_cases c1 : z < nI 0 ∨ nI 4 < z
  · have hno : f_X6_isOfRow N S z = f_X6_isOfRow_9 N S z := by
      rw [f_X6_isOfRow]
      by_cases h : z < 0
      · rw [if_pos h]
      · rw [if_neg h, if_neg (i_lt_nle (c1.resolve_left h))]
    by_cases c2 : z < nI 10 ∨ nI 14 < z
    · refine Or.inl ⟨?_, within_no N S c1, within_no N S c2⟩
      rw [hno, f_X6_isOfRow_9]
      by_cases h : z < nI 10
      · rw [if_pos h]
      · rw [if_neg h, if_pos]
        have h1 := Int32.lt_iff_toInt_lt.mp (c2.resolve_left h)
        rw [nI_toInt (by decide)] at h1
        apply Int32.le_iff_toInt_le.mpr
        rw [nI_toInt (by decide)]
        omega
    · obtain ⟨w, w1, w2, rfl⟩ := rng (lo := 10) (hi := 14) (by decide) (by decide) (fun q => c2 (Or.inl q)) (fun q => c2 (Or.inr q))
      refine Or.inr ⟨w, rfl, ?_, Or.inr ⟨⟨w1, w2⟩, within_no N S c1, within_in N S w1 w2 (by decide)⟩⟩
      rw [hno, f_X6_isOfRow_9, if_neg (nI_nlt w1 (by omega)), if_neg (nI_ge (by omega) (by omega))]
  · obtain ⟨w, w1, w2, rfl⟩ := rng (lo := 0) (hi := 4) (by decide) (by decide) (fun q => c1 (Or.inl q)) (fun q => c1 (Or.inr q))
    exact Or.inr ⟨w, rfl, by rw [f_X6_isOfRow, if_neg (nI_pos (by omega)), if_pos (nI_le w2 (by omega))], Or.inl ⟨w2, within_in N S w1 w2 (by decide)⟩⟩
theorem flt_0 {y : Nat × Nat × (Nat → Int32)} {lane i n : Int32} (h : flt (some y) lane i n = 0) : nI y.1 = lane ∧ ∃ i' n' : Nat, i = nI i' ∧ n = nI n' ∧ i' + n' ≤ y.2.1 := by
  have h : (if nI y.1 = lane then (if n < 0 then 4 else if fit y.2.1 i n then 0 else 3) else 2) = 0 := h
  by_cases c1 : nI y.1 = lane
  · rw [if_pos c1] at h
    by_cases c2 : n < 0
    · rw [if_pos c2] at h; cases h
    · rw [if_neg c2] at h
      by_cases c3 : fit y.2.1 i n = true
      · refine ⟨c1, ?_⟩
        have g := c3
        unfold fit at g
        rw [decide_eq_true_iff] at g
        obtain ⟨n', hn, rfl⟩ := nI_of g.1
        obtain ⟨i', hi, rfl⟩ := nI_of g.2.1
        rw [fit_i hi hn, decide_eq_true_iff] at c3
        exact ⟨i', n', rfl, rfl, c3⟩
      · rw [if_neg c3] at h; cases h
  · rw [if_neg c1] at h; cases h
theorem flt_lt (y : Option (Nat × Nat × (Nat → Int32))) (lane i n : Int32) : flt y lane i n ≤ 4 := by
  cases y with
  | none => exact Nat.le_of_ble_eq_true rfl
  | some y =>
    show (if nI y.1 = lane then (if n < 0 then 4 else if fit y.2.1 i n then 0 else 3) else 2) ≤ 4
    repeat (first | omega | split)
theorem b_row {N : Nat} (hN : 15100 ≤ N) (x y i n z : Int32) : Both (fun S => f_X6_row N S x y i n z) (fun S => f_X7_row N S x y i n z) := by
  refine Both.of fun a ha => ?_
  have h3 := ha.1.1
  rcases is_sh x with hx | ⟨j, hj, rfl⟩
  · refine ⟨-1, A5 a (nI 0), fun S hC => ⟨st S 0 10 (nI 0), ?_, hC.flt _, frC.st (by decide) S _ _⟩, fun S hM => ⟨st S 32 0 (nI 0), ?_, hM.flt _, frM.st (by decide) S _ _⟩⟩
    · show f_X6_row N S x y i n z = _
      rw [f_X6_row, bnd_e, sheetOf_no N _ hx, cal_s, opt_0]
    · show f_X7_row N S x y i n z = _
      rw [f_X7_row, bnd_e, isSheet_no N _ hx, cal_s, if_pos nI_0]
  -- what is outside
  have hout : ∀ (h1 : ∀ S, f_X6_row N S (nI j) y i n z = some ((-2 : Int32), st S 0 10 (nI 0))) (h2 : ∀ S, f_X7_row N S (nI j) y i n z = some ((-2 : Int32), st S 32 0 (nI 0))), ∃ r a', (∀ S, RC S a → ∃ S1, f_X6_row N S (nI j) y i n z = some (r, S1) ∧ RC S1 a' ∧ frC S S1) ∧ ∀ S, RM S a → ∃ S2, f_X7_row N S (nI j) y i n z = some (r, S2) ∧ RM S2 a' ∧ frM S S2 := fun h1 h2 =>
    ⟨-2, A5 a (nI 0), fun S hC => ⟨_, h1 S, hC.flt _, frC.st (by decide) S _ _⟩, fun S hM => ⟨_, h2 S, hM.flt _, frM.st (by decide) S _ _⟩⟩
  rcases is_ln y with hy | ⟨t, ht, rfl⟩
  · refine hout (fun S => ?_) (fun S => ?_)
    · rw [f_X6_row, bnd_e, sheetOf_ok N _ hj, cal_s, opt_1, if_pos hj, (isLane_no N _ hy).1, cal_s, if_pos nI_0]
    · rw [f_X7_row, bnd_e, isSheet_ok N _ hj, cal_s, if_neg (by decide), (isLane_no N _ hy).2, cal_s, if_pos nI_0]
  by_cases hn : n < 0 ∨ nI 20 < n
  · refine hout (fun S => ?_) (fun S => ?_)
    · rw [f_X6_row, bnd_e, sheetOf_ok N _ hj, cal_s, opt_1, if_pos hj, (isLane_ok N _ ht).1, cal_s, if_neg (by decide)]
      by_cases c : n < 0
      · rw [if_pos c]
      · rw [if_neg c, if_pos (hn.resolve_left c)]
    · rw [f_X7_row, bnd_e, isSheet_ok N _ hj, cal_s, if_neg (by decide), (isLane_ok N _ ht).2, cal_s, if_neg (by decide), within_no N _ (lo := nI 0) hn, cal_s, if_pos nI_0]
  obtain ⟨n, -, n20, rfl⟩ := rng (lo := 0) (hi := 20) (by decide) (by decide) (fun w => hn (Or.inl w)) (fun w => hn (Or.inr w))
  have hC1 : ∀ S, f_X6_row N S (nI j) (nI t) i (nI n) z = (fun S6 => cal (f_X6_isOfRow N S6 z) (fun r11 S9 => if r11 = (0 : Int32) then some ((-2 : Int32), S9) else cal (f_X5_faultOf N S9 j (nI t) i (nI n)) (fun r14 S12 => if r14 = (0 : Int32) then cal (f_X5_allWithin N S12 j i (nI n) (nI 10)) (fun r17 S15 => if r17 = (0 : Int32) then some ((-2 : Int32), S15) else cal (f_X0_keysThereAre N S15) (fun r20 S18 => cal (f_X5_allWithin N S18 j i (nI n) (r20 - (nI 1))) (fun r23 S21 => if r23 = (0 : Int32) then some ((-1 : Int32), S21) else cal (f_X6_ofRow N S21 j i (nI n) z) (fun r26 S24 => some (r26, S24))))) else cal (f_X6_meet N S12 r14) (fun r29 S27 => some (r29, S27))))) (st S 0 10 (nI 0)) := fun S => by
    rw [f_X6_row, bnd_e, sheetOf_ok N _ hj, cal_s, opt_1, if_pos hj, (isLane_ok N _ ht).1, cal_s, if_neg (by decide), if_neg (nI_pos (by omega)), if_neg (nI_nlt n20 (by omega))]
  have hM1 : ∀ S, f_X7_row N S (nI j) (nI t) i (nI n) z = (fun S8 => cal (f_X7_within N S8 z (nI 0) (nI 4)) (fun r13 S11 => if r13 = (0 : Int32) then cal (f_X7_within N S11 z (nI 10) (nI 14)) (fun r16 S14 => if r16 = (0 : Int32) then some ((-2 : Int32), S14) else f_X7_row_57 N S14 (nI j) (nI t) i (nI n) z) else f_X7_row_57 N S11 (nI j) (nI t) i (nI n) z)) (st S 32 0 (nI 0)) := fun S => by
    rw [f_X7_row, bnd_e, isSheet_ok N _ hj, cal_s, if_neg (by decide), (isLane_ok N _ ht).2, cal_s, if_neg (by decide), within_in N _ (Nat.zero_le _) n20 (by decide), cal_s, if_neg (by decide)]
  rcases ofRow_what N (fun _ _ => 0) z with hw | ⟨w, rfl, hw1, hw2⟩
  · have hW := fun S => ofRow_what N S z
    have hbad : ∀ S, (f_X6_isOfRow N S z = some (nI 0, S) ∧ f_X7_within N S z (nI 0) (nI 4) = some (nI 0, S) ∧ f_X7_within N S z (nI 10) (nI 14) = some (nI 0, S)) := fun S => by
      rcases hW S with h | ⟨w, rfl, h1, h2⟩
      · exact h
      · exfalso
        have e1 := hw.1
        rcases h2 with ⟨h2, -⟩ | ⟨⟨h2, h4⟩, -⟩
        · rw [f_X6_isOfRow, if_neg (nI_pos (by omega)), if_pos (nI_le h2 (by omega))] at e1
          have := congrArg Prod.fst (Option.some.inj e1)
          exact absurd this (by decide)
        · rw [f_X6_isOfRow, if_neg (nI_pos (by omega)), if_neg (nI_ge (by omega) (by omega)), f_X6_isOfRow_9, if_neg (nI_nlt h2 (by omega)), if_neg (nI_ge (by omega) (by omega))] at e1
          have := congrArg Prod.fst (Option.some.inj e1)
          exact absurd this (by decide)
    refine hout (fun S => ?_) (fun S => ?_)
    · rw [hC1]; dsimp only; rw [(hbad _).1, cal_s, if_pos nI_0]
    · rw [hM1]; dsimp only; rw [(hbad _).2.1, cal_s, if_pos nI_0, (hbad _).2.2, cal_s, if_pos nI_0]
  have hwv : w ≤ 4 ∨ 10 ≤ w ∧ w ≤ 14 := hw2.elim (fun h => Or.inl h.1) (fun h => Or.inr h.1)
  have hgo : ∀ S, f_X6_isOfRow N S (nI w) = some (nI 1, S) := fun S => by
    rcases hwv with h2 | ⟨h2, h4⟩
    · rw [f_X6_isOfRow, if_neg (nI_pos (by omega)), if_pos (nI_le h2 (by omega))]
    · rw [f_X6_isOfRow, if_neg (nI_pos (by omega)), if_neg (nI_ge (by omega) (by omega)), f_X6_isOfRow_9, if_neg (nI_nlt h2 (by omega)), if_neg (nI_ge (by omega) (by omega))]
  have hC2 : ∀ S, RC S a → f_X6_row N S (nI j) (nI t) i (nI n) (nI w) = (fun S12 => if nI (flt (a.2.2.2.2.2.2 j) (nI t) i (nI n)) = (0 : Int32) then cal (f_X5_allWithin N S12 j i (nI n) (nI 10)) (fun r17 S15 => if r17 = (0 : Int32) then some ((-2 : Int32), S15) else cal (f_X0_keysThereAre N S15) (fun r20 S18 => cal (f_X5_allWithin N S18 j i (nI n) (r20 - (nI 1))) (fun r23 S21 => if r23 = (0 : Int32) then some ((-1 : Int32), S21) else cal (f_X6_ofRow N S21 j i (nI n) (nI w)) (fun r26 S24 => some (r26, S24))))) else cal (f_X6_meet N S12 (nI (flt (a.2.2.2.2.2.2 j) (nI t) i (nI n)))) (fun r29 S27 => some (r29, S27))) (st S 0 10 (nI 0)) := fun S hC => by
    rw [hC1]; dsimp only
    rw [hgo, cal_s, if_neg (by decide), faultOf_ok N (hC.flt (nI 0)).2.2.2.2.2.2.2.1 hj (fun q hq => ha.2.2.2 j q hq), cal_s]
  have hM2 : ∀ S, RM S a → f_X7_row N S (nI j) (nI t) i (nI n) (nI w) = (fun S1 => if nI (flt (a.2.2.2.2.2.2 j) (nI t) i (nI n)) = (0 : Int32) then bnd (((nI 60) * nI j) + i) (fun y4 => bnd ((nI 1)) (fun y5 => bnd ((nI 0)) (fun y6 => f_X7_row_94 N N S1 (nI n) (nI w) y4 y5 y6))) else cal (f_X7_fails N S1 (nI (flt (a.2.2.2.2.2.2 j) (nI t) i (nI n)))) (fun r9 S7 => some (r9, S7))) (st S 32 0 (nI 0)) := fun S hM => by
    have h57 : f_X7_row_57 N (st S 32 0 (nI 0)) (nI j) (nI t) i (nI n) (nI w) = (fun S1 => if nI (flt (a.2.2.2.2.2.2 j) (nI t) i (nI n)) = (0 : Int32) then bnd (((nI 60) * nI j) + i) (fun y4 => bnd ((nI 1)) (fun y5 => bnd ((nI 0)) (fun y6 => f_X7_row_94 N N S1 (nI n) (nI w) y4 y5 y6))) else cal (f_X7_fails N S1 (nI (flt (a.2.2.2.2.2.2 j) (nI t) i (nI n)))) (fun r9 S7 => some (r9, S7))) (st S 32 0 (nI 0)) := by
      rw [f_X7_row_57, against_ok N (hM.flt (nI 0)).2.2.2.2.2.2.2.1 hj (fun q hq => ha.2.2.2 j q hq), cal_s]
    rw [hM1]; dsimp only
    rcases hwv with h2 | ⟨h2, h4⟩
    · rw [within_in N _ (Nat.zero_le _) h2 (by decide), cal_s, if_neg (by decide), h57]
    · rw [within_no N _ (Or.inr (nI_lt (by omega) (by omega))), cal_s, if_pos nI_0, within_in N _ h2 h4 (by decide), cal_s, if_neg (by decide), h57]
  by_cases hz : flt (a.2.2.2.2.2.2 j) (nI t) i (nI n) = 0
  · -- no fault: the row is there
    cases hs : a.2.2.2.2.2.2 j with
    | none => rw [hs] at hz; cases hz
    | some q =>
    obtain ⟨q1, q2⟩ := ha.2.2.2 j q hs
    rw [hz] at hC2 hM2
    rw [hs] at hz
    obtain ⟨-, i, n', rfl, hnn, hin⟩ := flt_0 hz
    have hnn : n = n' := by
      by_cases c : n' < 2147483648
      · exact (n_eq (by omega) c).mp hnn
      · omega
    subst hnn
    have hcell : ∀ S, RC S a → (∀ p, p < 60 → st S 0 10 (nI 0) (16 + j) p = q.2.2 p) := fun S hC => (((hC.flt (nI 0)).2.2.2.2.2.2.2.1 j hj).2 q hs).2.2
    have hcellM : ∀ S, RM S a → (∀ p, p < n → st S 32 0 (nI 0) 35 (60 * j + i + p) = q.2.2 (i + p)) := fun S hM p hp => by
      rw [show 60 * j + i + p = 60 * j + (i + p) by omega]
      exact (((hM.flt (nI 0)).2.2.2.2.2.2.2.1 j hj).2 q hs).2.2 (i + p) (by omega)
    have hCA : ∀ S, RC S a → ∀ m, f_X5_allWithin N (st S 0 10 (nI 0)) j (nI i) (nI n) m = some (nI (b01 (allW q.2.2 m n i)), st S 0 10 (nI 0)) := fun S hC m => by
      rw [f_X5_allWithin, bnd_e]
      exact allWithin_ok (hcell S hC) (by omega) m n 0 N (by omega) (by omega)
    have hlook := fun (S : St) (hM : RM S a) => row_look (N := N) (S := st S 32 0 (nI 0)) ha.1 (hM.flt (nI 0)).2.1 (f := q.2.2) (x0 := 60 * j + i) (i := i) (n := n) (by omega) (hcellM S hM) (nI w) n 0 N true (by omega) (by omega)
    by_cases hA : allW q.2.2 (nI 10) n i = true
    · by_cases hB : allW q.2.2 (nI (7 + a.1.length)) n i = true
      · -- it is gone through
        have hk := allW_k (by omega) n i hB
        have hk : ∀ p, p < n → q.2.2 (i + p) = nI (q.2.2 (i + p)).toNatClampNeg ∧ (q.2.2 (i + p)).toNatClampNeg < 8 + a.1.length := fun p hp => ⟨(hk p hp).1, by have := (hk p hp).2; omega⟩
        refine ⟨rowA w (rowR a.1 (fun p => (q.2.2 (i + p)).toNatClampNeg) n 0 (a.2.1, 0, -9)), A5 a (nI 0), fun S hC => ?_, fun S hM => ?_⟩
        · have hC' := hC.flt (nI 0)
          obtain ⟨S', d1, d2, d3⟩ := ofRow_loop (N := N) (by omega) ha.1 (j := j) (i := i) (n := n) (w := w) (by omega) n20 hwv hk n 0 N (st S 0 10 (nI 0)) (a.2.1, 0, -9) (by omega) (by omega) hC'.2.1 (hcell S hC) ha.2.1 (Nat.zero_le _)
          refine ⟨S', ?_, hC'.of3 d2 d3, (frC.st (by decide) S _ _).tr d3.C⟩
          show f_X6_row N S (nI j) (nI t) (nI i) (nI n) (nI w) = _
          rw [hC2 S hC]; dsimp only
          rw [if_pos nI_0, hCA S hC, hA, cal_s, if_neg (by decide), f_X0_keysThereAre, cal_s, hC'.2.1.2.1.1, n_add, n_sub (by omega), show 8 + a.1.length - 1 = 7 + a.1.length by omega, hCA S hC, hB, cal_s, if_neg (by decide), f_X6_ofRow, bnd_e, bnd_e, bnd_e, bnd_e, hC'.2.2.1, d1, cal_s]
        · have hM' := hM.flt (nI 0)
          obtain ⟨S1, a1, a2, a3, a4⟩ := workOn_ok (N := N) (by omega) (st S 32 0 (nI 0)) ha.2.1
          have f2 : frR (st S 32 0 (nI 0)) (st (st S1 32 22 (nI 0)) 32 26 (-9)) := (a3.R.tr (frW.st22 _ _).R).tr (frR.st26 _ _)
          obtain ⟨S2, b1, b2, b3, b4, b5⟩ := goRow_loop hN ha.1 (f := q.2.2) (x0 := 60 * j + i) (i := i) (n := n) (by omega) n20 hk n 0 N (st (st S1 32 22 (nI 0)) 32 26 (-9)) (a.2.1, 0, -9) (by omega) (by omega) (hM'.2.1.R f2) (fun p hp => by rw [f2.1 35 (by decide) (by decide) (by decide) (by decide) (by decide)]; exact hcellM S hM p hp) ⟨a2.1, by rw [st_n (by decide), st_n (by decide)]; exact a2.2.1, by rw [st_n (by decide), st_n (by decide)]; exact a2.2.2.1, fun p hp => by rw [st_ne (by decide), st_ne (by decide)]; exact a2.2.2.2 p hp⟩ (by rw [st_n (by decide), st_s]) st_s
          refine ⟨S2, ?_, (hM'.R f2).R b5, ((frM.st (by decide) S _ _).tr f2.M).tr b5.M⟩
          show f_X7_row N S (nI j) (nI t) (nI i) (nI n) (nI w) = _
          rw [hM2 S hM]; dsimp only
          rw [if_pos nI_0, bnd_e, bnd_e, bnd_e, n_mul, n_add, show nI 1 = nI (b01 true) from rfl, (hlook S hM).2 hA, Nat.add_zero, hB, if_pos (by rfl), f_X7_goRow, hM'.2.2.1, a1, cal_s, bnd_e, bnd_e, bnd_e, b1, cal_s, tellRow_ok (by omega) b2 b3 b4 hwv, cal_s]
      · have hB := ts_nt' hB
        refine ⟨-1, A5 a (nI 0), fun S hC => ⟨st S 0 10 (nI 0), ?_, hC.flt _, frC.st (by decide) S _ _⟩, fun S hM => ⟨st S 32 0 (nI 0), ?_, hM.flt _, frM.st (by decide) S _ _⟩⟩
        · show f_X6_row N S (nI j) (nI t) (nI i) (nI n) (nI w) = _
          rw [hC2 S hC]; dsimp only
          rw [if_pos nI_0, hCA S hC, hA, cal_s, if_neg (by decide), f_X0_keysThereAre, cal_s, (hC.flt (nI 0)).2.1.2.1.1, n_add, n_sub (by omega), show 8 + a.1.length - 1 = 7 + a.1.length by omega, hCA S hC, hB, cal_s, if_pos (by rfl)]
        · show f_X7_row N S (nI j) (nI t) (nI i) (nI n) (nI w) = _
          rw [hM2 S hM]; dsimp only
          rw [if_pos nI_0, bnd_e, bnd_e, bnd_e, n_mul, n_add, show nI 1 = nI (b01 true) from rfl, (hlook S hM).2 hA, Nat.add_zero, hB, if_neg (by decide)]
    · have hA := ts_nt' hA
      refine ⟨-2, A5 a (nI 0), fun S hC => ⟨st S 0 10 (nI 0), ?_, hC.flt _, frC.st (by decide) S _ _⟩, fun S hM => ⟨st S 32 0 (nI 0), ?_, hM.flt _, frM.st (by decide) S _ _⟩⟩
      · show f_X6_row N S (nI j) (nI t) (nI i) (nI n) (nI w) = _
        rw [hC2 S hC]; dsimp only
        rw [if_pos nI_0, hCA S hC, hA, cal_s, if_pos (by rfl)]
      · show f_X7_row N S (nI j) (nI t) (nI i) (nI n) (nI w) = _
        rw [hM2 S hM]; dsimp only
        rw [if_pos nI_0, bnd_e, bnd_e, bnd_e, n_mul, n_add, show nI 1 = nI (b01 true) from rfl, (hlook S hM).1 hA]
  · have hlt := flt_lt (a.2.2.2.2.2.2 j) (nI t) i (nI n)
    generalize flt (a.2.2.2.2.2.2 j) (nI t) i (nI n) = v at hz hlt hC2 hM2
    have hv : ¬ nI v = 0 := by rw [z_eq (by omega)]; exact hz
    refine ⟨(-10 : Int32) - nI v, A5 a (nI v), fun S hC => ⟨st (st S 0 10 (nI 0)) 0 10 (nI v), ?_, (hC.flt _).flt _, (frC.st (by decide) S _ _).tr (frC.st (by decide) _ _ _)⟩, fun S hM => ⟨st (st S 32 0 (nI 0)) 32 0 (nI v), ?_, (hM.flt _).flt _, (frM.st (by decide) S _ _).tr (frM.st (by decide) _ _ _)⟩⟩
    · show f_X6_row N S (nI j) (nI t) i (nI n) (nI w) = _
      rw [hC2 S hC]; dsimp only
      rw [if_neg hv, meet_at, cal_s]
    · show f_X7_row N S (nI j) (nI t) i (nI n) (nI w) = _
      rw [hM2 S hM]; dsimp only
      rw [if_neg hv, fails_at, cal_s]
