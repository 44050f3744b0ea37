/-! row: what a line would be -/
theorem eff5 {N : Nat} (hN : 8 ≤ N) {c : List Mac} (hc : okC c) : FeOk (g_X0_effectOf N 5) c 12 := by
  intro S l key hK hl hk hkc
  have h3 := hc.1
  by_cases h8 : key < 8
  · obtain ⟨S', a1, a2, a3⟩ := effect_ok hN c hc 3 (by omega) S l key hK hl (by omega) hkc
    refine ⟨S', ?_, a2, a3⟩
    have hx : ∀ fe, f_X0_effectOf N fe S (nI (cn l)) (nI key) = f_X0_effectOf N (g_X0_effectOf N 3) S (nI (cn l)) (nI key) := fun fe => by
      rw [f_X0_effectOf, f_X0_effectOf, if_neg (nI_ge (by omega) (by omega)), if_neg (nI_ge (by omega) (by omega))]
    exact (hx _).trans a1
  · exact eff_mac (d := 3) hN hc (fun j hj => by
      have := effect_ok hN c hc 3 (by omega)
      exact fun S l k h1 h2 h3 h4 => this S l k h1 h2 (by omega) h4) S l key hK hl (by omega) (by omega) hkc
def rowS (c : List Mac) (k p : Nat) (s : Ln × Nat × Int32) : Ln × Nat × Int32 := ((keyE (ef c) k (s.1, 0)).1, s.2.1 + (keyE (ef c) k (s.1, 0)).2, if s.2.2 = -9 ∧ k < 8 ∧ bmp k s.1 = true then nI p else s.2.2)
def rowR (c : List Mac) (kf : Nat → Nat) : Nat → Nat → Ln × Nat × Int32 → Ln × Nat × Int32
  | 0, _, s => s
  | d + 1, p, s => rowR c kf d (p + 1) (rowS c (kf p) p s)
def rowA (w : Nat) (s : Ln × Nat × Int32) : Int32 := if w = 0 then nI s.1.1 else if w = 1 then nI s.1.2.1 else if w = 2 then s.2.2 else if w = 3 then nI s.2.1 else if w = 4 then nI (dgs s.1 s.1.1) else if w - 10 < s.1.1 then nI (dg s.1 (w - 10)) else -9
def allW (f : Nat → Int32) (m : Int32) : Nat → Nat → Bool
  | 0, _ => true
  | d + 1, x => (!decide (f x < 0)) && (decide (f x ≤ m)) && allW f m d (x + 1)
theorem allWithin_ok {N : Nat} {S : St} {j : Nat} {f : Nat → Int32} (hf : ∀ x, x < 60 → S (16 + j) x = f x) {i n : Nat} (hin : i + n ≤ 60) (m : Int32) : ∀ (d p g : Nat), p + d = n → d < g → f_X5_allWithin_3 N g S j (nI i) (nI n) m (nI p) = some (nI (b01 (allW f m d (i + p))), S) := by
  intro d
  induction d with
  | zero =>
    intro p g hp hg
    obtain ⟨g, rfl⟩ : ∃ e, g = e + 1 := ⟨g - 1, by omega⟩
    rw [f_X5_allWithin_3, if_pos (nI_le (by omega) (by omega))]
    rfl
  | succ d ih =>
    intro p g hp hg
    obtain ⟨g, rfl⟩ : ∃ e, g = e + 1 := ⟨g - 1, by omega⟩
    rw [f_X5_allWithin_3, if_neg (nI_ge (by omega) (by omega)), n_add, if_pos ((inb_i (by omega)).mpr (by omega)), bnd_e, n_cl (by omega), hf _ (by omega), bnd_e, n_add, ih (p + 1) g (by omega) (by omega)]
    show _ = some (nI (b01 ((!decide (f (i + p) < 0)) && (decide (f (i + p) ≤ m)) && allW f m d (i + p + 1))), S)
    by_cases c1 : f (i + p) < 0
    · rw [if_pos c1, decide_eq_true c1]; rfl
    · rw [if_neg c1, decide_eq_false c1]
      by_cases c2 : f (i + p) ≤ m
      · rw [if_pos c2, decide_eq_true c2]; rfl
      · rw [if_neg c2, decide_eq_false c2]; rfl
/-- cells within a bound are keys -/
theorem allW_k {f : Nat → Int32} {m : Nat} (hm : m < 2147483648) : ∀ (d x : Nat), allW f (nI m) d x = true → ∀ p, p < d → f (x + p) = nI (f (x + p)).toNatClampNeg ∧ (f (x + p)).toNatClampNeg ≤ m := by
  intro d
  induction d with
  | zero => intro x _ p hp; omega
  | succ d ih =>
    intro x h p hp
    have h' : ((!decide (f x < 0)) && (decide (f x ≤ nI m)) && allW f (nI m) d (x + 1)) = true := h
    rw [Bool.and_eq_true, Bool.and_eq_true, Bool.not_eq_true', decide_eq_false_iff_not, decide_eq_true_iff] at h'
    obtain ⟨⟨h1, h2⟩, h3⟩ := h'
    cases p with
    | zero =>
      obtain ⟨j, j1, j2⟩ := nI_of h1
      rw [Nat.add_zero, j2, n_cl j1]
      rw [j2, n_le j1 hm] at h2
      exact ⟨rfl, h2⟩
    | succ p => rw [show x + (p + 1) = x + 1 + p by omega]; exact ih (x + 1) h3 p (by omega)
theorem rowS_ok {c : List Mac} (hc : okC c) {k : Nat} (hk : k < 8 + c.length) {p : Nat} {s : Ln × Nat × Int32} (hs : okL s.1) : okL (rowS c k p s).1 ∧ (rowS c k p s).2.1 ≤ s.2.1 + 13824 := by
  have h3 := hc.1
  have := keyE_ok hc (k := k) (by omega) (p := (s.1, 0)) hs
  refine ⟨this.1, ?_⟩
  have h2 := this.2
  dsimp only at h2
  show s.2.1 + _ ≤ _
  omega
theorem ofRow_loop {N : Nat} (hN : 8 ≤ N) {c : List Mac} (hc : okC c) {j : Nat} {f : Nat → Int32} {i n w : Nat} (hin : i + n ≤ 60) (hn : n ≤ 20) (hw : w ≤ 4 ∨ 10 ≤ w ∧ w ≤ 14) (hk : ∀ p, p < n → f (i + p) = nI (f (i + p)).toNatClampNeg ∧ (f (i + p)).toNatClampNeg < 8 + c.length) : ∀ (d p g : Nat) (S : St) (s : Ln × Nat × Int32), p + d = n → d < g → KC S c → (∀ x, x < 60 → S (16 + j) x = f x) → okL s.1 → s.2.1 ≤ p * 13824 → ∃ S', f_X6_ofRow_16 N g S j (nI i) (nI n) (nI w) (nI (cn s.1)) (nI s.2.1) s.2.2 (nI p) = some (rowA w (rowR c (fun p => (f (i + p)).toNatClampNeg) d p s), S') ∧ KC S' c ∧ fr3 S S' := by
  have h3 := hc.1
  intro d
  induction d with
  | zero =>
    intro p g S s hp hg hK hf hs hb
    obtain ⟨g, rfl⟩ : ∃ e, g = e + 1 := ⟨g - 1, by omega⟩
    have h5 := hs.1
    refine ⟨S, ?_, hK, fun _ _ => rfl⟩
    rw [f_X6_ofRow_16, if_pos (nI_le (by omega) (by omega)), bnd_e, countOf_ok (by omega) S hs, cal_s, cursorOf_ok (by omega) S hs, cal_s, digitsOf_ok (by omega) S hs, cal_s, cal_s]
    show _ = some (rowA w s, S)
    unfold rowA
    rcases hw with hw | ⟨w1, w2⟩
    · rcases (show w = 0 ∨ w = 1 ∨ w = 2 ∨ w = 3 ∨ w = 4 by omega) with rfl | rfl | rfl | rfl | rfl <;> rfl
    · rw [if_neg (by rw [n_eq (by omega) (by omega)]; omega), if_neg (by rw [n_eq (by omega) (by omega)]; omega), if_neg (by rw [n_eq (by omega) (by omega)]; omega), if_neg (by rw [n_eq (by omega) (by omega)]; omega), if_neg (by rw [n_eq (by omega) (by omega)]; omega), if_neg (show ¬ w = 0 by omega), if_neg (show ¬ w = 1 by omega), if_neg (show ¬ w = 2 by omega), if_neg (show ¬ w = 3 by omega), if_neg (show ¬ w = 4 by omega), n_sub w1]
      by_cases cl : w - 10 < s.1.1
      · rw [if_neg (nI_ge cl (by omega)), if_pos cl, letterAt_ok (by omega) S hs cl, cal_s]
      · rw [if_pos (nI_le (by omega) (by omega)), if_neg cl]
  | succ d ih =>
    intro p g S s hp hg hK hf hs hb
    obtain ⟨g, rfl⟩ : ∃ e, g = e + 1 := ⟨g - 1, by omega⟩
    obtain ⟨k1, k2⟩ := hk p (by omega)
    rw [f_X6_ofRow_16, if_neg (nI_ge (by omega) (by omega)), n_add, if_pos ((inb_i (by omega)).mpr (by omega)), bnd_e, n_cl (by omega), hf _ (by omega), k1]
    generalize hkk : (f (i + p)).toNatClampNeg = k at k1 k2
    obtain ⟨S1, b1, b2, b3⟩ := eff5 hN hc S s.1 k hK hs (by omega) k2
    have hke := keyE_ok hc (k := k) (by omega) (p := (s.1, 0)) hs
    have hb2 : (keyE (ef c) k (s.1, 0)).2 ≤ 200000 := by have := hke.2; dsimp only at this; omega
    have hso := rowS_ok hc k2 (p := p) hs
    rw [b1, cal_s, bumpsOf_pk N S1 hke.1 hb2, cal_s]
    obtain ⟨S', d1, d2, d3⟩ := ih (p + 1) g S1 (rowS c k p s) (by omega) (by omega) b2 (fun x hx => by rw [b3 _ (by omega)]; exact hf x hx) hso.1 (by have := hso.2; omega)
    have h76 : ∀ fb, f_X6_ofRow_76 N (f_X6_ofRow_16 N g) S1 j (nI i) (nI n) (nI w) (nI s.2.1) fb (nI p) (nI (pk (keyE (ef c) k (s.1, 0)))) (nI (keyE (ef c) k (s.1, 0)).2) = f_X6_ofRow_16 N g S1 j (nI i) (nI n) (nI w) (nI (cn (keyE (ef c) k (s.1, 0)).1)) (nI (s.2.1 + (keyE (ef c) k (s.1, 0)).2)) fb (nI (p + 1)) := fun fb => by
      rw [f_X6_ofRow_76, bnd_e, lineOf_pk N S1 hke.1 hb2, cal_s, bnd_e, n_add, n_add]
    refine ⟨S', ?_, d2, fun z hz => (d3 z hz).trans (b3 z hz)⟩
    rw [h76, h76]
    have hgoal : f_X6_ofRow_16 N g S1 j (nI i) (nI n) (nI w) (nI (cn (rowS c k p s).1)) (nI (rowS c k p s).2.1) (rowS c k p s).2.2 (nI (p + 1)) = some (rowA w (rowR c (fun p => (f (i + p)).toNatClampNeg) (d + 1) p s), S') := by
      rw [d1]
      show _ = some (rowA w (rowR c (fun p => (f (i + p)).toNatClampNeg) d (p + 1) (rowS c (f (i + p)).toNatClampNeg p s)), S')
      rw [hkk]
    have hmore : k < 8 → (keyE (ef c) k (s.1, 0)).2 = b01 (bmp k s.1) := fun h => by
      unfold keyE; rw [if_pos h]; show 0 + _ = _; rw [Nat.zero_add]
    rw [← hgoal]
    show _ = f_X6_ofRow_16 N g S1 j (nI i) (nI n) (nI w) (nI (cn (keyE (ef c) k (s.1, 0)).1)) (nI (s.2.1 + (keyE (ef c) k (s.1, 0)).2)) (if s.2.2 = -9 ∧ k < 8 ∧ bmp k s.1 = true then nI p else s.2.2) (nI (p + 1))
    by_cases c1 : s.2.2 = -9
    · rw [if_pos c1]
      by_cases c2 : k < 8
      · rw [if_neg (nI_ge (by omega) (by omega)), hmore c2]
        by_cases c3 : bmp k s.1 = true
        · rw [c3, if_neg (by decide), if_pos ⟨c1, c2, rfl⟩]
        · rw [ts_nt' c3, if_pos (by decide), if_neg (fun z => by cases z.2.2)]
      · rw [if_pos (nI_le (by omega) (by omega)), if_neg (fun z => c2 z.2.1)]
    · rw [if_neg c1, if_neg (fun z => c1 z.1)]
