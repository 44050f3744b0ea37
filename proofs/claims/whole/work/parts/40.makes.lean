/-! what all keys make of all lines: the reference's table -/
/-- the table, of the keys below b -/
def mkT (S : St) (c : List Mac) (b : Nat) : Prop := ∀ k l, k < b → okL l → S 49 (7737 * k + rn l) = nI (rn (go c k l))
theorem mb_in {N : Nat} {c : List Mac} (hc : okC c) {i : Nat} {m : Mac} (hm : c[i]? = some m) {S : St} (hM : CfM S c) (hT : mkT S c (8 + i)) (k12 : St → Int32 → Int32 → Int32 → Int32 → Option (Int32 × St)) (x4 x5 : Int32) : ∀ (suf : List Nat) (j g : Nat) (p : Ln × Nat), j + suf.length = m.2.2.length → (∀ q k, suf[q]? = some k → m.2.2[j + q]? = some k) → suf.length < g → okL p.1 → f_X7_madeBy_22 N k12 g S (nI i) (nI (rn p.1)) x4 x5 (nI j) = k12 S (nI i) (nI (rn (runE (ef c) suf p).1)) x4 (x5 + nI 1) ∧ okL (runE (ef c) suf p).1 := by
  have h3 := hc.1
  have hi := mac_lt hm
  obtain ⟨m1, m2, m3, m4, m5, m6⟩ := hc.2 i m hm
  obtain ⟨e1, e2, e3, e4⟩ := hM.2 i m hm
  intro suf
  induction suf with
  | nil =>
    intro j g p hj _ hg hp
    obtain ⟨g, rfl⟩ : ∃ e, g = e + 1 := ⟨g - 1, by omega⟩
    rw [List.length_nil] at hj
    rw [f_X7_madeBy_22, if_pos ((inb_i (by omega)).mpr (by omega)), n_cl (by omega), e3, if_pos (nI_le (by omega) (by omega)), bnd_e]
    exact ⟨rfl, hp⟩
  | cons k suf ih =>
    intro j g p hj hs hg hp
    obtain ⟨g, rfl⟩ : ∃ e, g = e + 1 := ⟨g - 1, by omega⟩
    rw [List.length_cons] at hj hg
    have hk := hs 0 k rfl
    rw [Nat.add_zero] at hk
    have hkm := m6 k (List.mem_of_getElem? hk)
    have hr := rn_lt hp
    rw [f_X7_madeBy_22, if_pos ((inb_i (by omega)).mpr (by omega)), n_cl (by omega), e3, if_neg (nI_ge (by omega) (by omega)), n_mul, n_add, if_pos ((inb_i (by omega)).mpr (by omega)), n_cl (by omega), e4 j k hk, n_mul, n_add, if_pos ((inb_i (by omega)).mpr (by omega)), n_cl (by omega), bnd_e, bnd_e, hT k p.1 hkm hp, n_add]
    have hg : (keyE (ef c) k p).1 = go c k p.1 := by
      obtain ⟨a, b⟩ := p
      rw [keyE_0]; rfl
    have := ih (j + 1) g (keyE (ef c) k p) (by omega) (fun q z hz => by rw [show j + 1 + q = j + (q + 1) by omega]; exact hs (q + 1) z hz) (by omega) (by rw [hg]; exact go_ok hc (by omega) hp)
    rw [hg] at this
    exact this
theorem mb_out {N : Nat} (hN : 5 ≤ N) {c : List Mac} (hc : okC c) {i : Nat} {m : Mac} (hm : c[i]? = some m) {S : St} (hM : CfM S c) (hT : mkT S c (8 + i)) : ∀ (t r g : Nat) (p : Ln × Nat), r + t = oft m → t < g → okL p.1 → f_X7_madeBy_12 N g S (nI i) (nI (rn p.1)) (nI (oft m)) (nI r) = some (nI (rn (repE (ef c) m.2.2 t p).1), S) := by
  obtain ⟨m1, m2, m3, m4, m5, m6⟩ := hc.2 i m hm
  have ho : oft m ≤ 6 := by unfold oft; repeat (first | omega | split)
  intro t
  induction t with
  | zero =>
    intro r g p hr hg hp
    obtain ⟨g, rfl⟩ : ∃ e, g = e + 1 := ⟨g - 1, by omega⟩
    rw [f_X7_madeBy_12, if_pos (nI_le (by omega) (by omega))]
    rfl
  | succ t ih =>
    intro r g p hr hg hp
    obtain ⟨g, rfl⟩ : ∃ e, g = e + 1 := ⟨g - 1, by omega⟩
    obtain ⟨b1, b2⟩ := mb_in (N := N) hc hm hM hT (f_X7_madeBy_12 N g) (nI (oft m)) (nI r) m.2.2 0 N p (by omega) (fun q k h => by rw [Nat.zero_add]; exact h) (by omega) hp
    rw [f_X7_madeBy_12, if_neg (nI_ge (by omega) (by omega)), bnd_e, b1, n_add, ih (r + 1) g _ (by omega) (by omega) b2]
    rfl
theorem madeBy_ok {N : Nat} (hN : 8 ≤ N) {c : List Mac} (hc : okC c) {i : Nat} {m : Mac} (hm : c[i]? = some m) {S : St} (hM : CfM S c) (hT : mkT S c (8 + i)) {l : Ln} (hl : okL l) : f_X7_madeBy N S (nI i) (nI (rn l)) = some (nI (rn (ef c i l).1), S) := by
  obtain ⟨m1, m2, m3, m4, m5, m6⟩ := hc.2 i m hm
  have ho : oft m ≤ 6 := by unfold oft; repeat (first | omega | split)
  rw [f_X7_madeBy, oftenM_ok N hc hM hm, cal_s, bnd_e, mb_out (by omega) hc hm hM hT (oft m) 0 N (l, 0) (by omega) (by omega) hl, ← ef_eq hc hm l]
theorem CfM.k49 {S S' : St} {c : List Mac} (h : CfM S c) (hf : ∀ k, k ≠ 49 → S' k = S k) : CfM S' c := h.eq (by rw [hf 32 (by decide)]) ⟨hf 36 (by decide), hf 37 (by decide), hf 38 (by decide), hf 39 (by decide)⟩
theorem fm_mac {N : Nat} (hN : 8 ≤ N) {c : List Mac} (hc : okC c) {i : Nat} {m : Mac} (hm : c[i]? = some m) (k70 : St → Int32 → Option (Unit × St)) : ∀ (d x g : Nat) (S : St), x + d = 7737 → d < g → CfM S c → mkT S c (8 + i) → ∃ S', f_X7_findMakes_87 N k70 g S (nI i) (nI x) = k70 S' (nI (i + 1)) ∧ (∀ k, k ≠ 49 → S' k = S k) ∧ (∀ y, y < 7737 * (8 + i) + x → S' 49 y = S 49 y) ∧ ∀ l, okL l → x ≤ rn l → S' 49 (7737 * (8 + i) + rn l) = nI (rn (ef c i l).1) := by
  have h3 := hc.1
  have hi := mac_lt hm
  intro d
  induction d with
  | zero =>
    intro x g S hx hg hM hT
    obtain ⟨g, rfl⟩ : ∃ e, g = e + 1 := ⟨g - 1, by omega⟩
    refine ⟨S, ?_, fun _ _ => rfl, fun _ _ => rfl, fun l hl h => ?_⟩
    · rw [f_X7_findMakes_87, if_pos (nI_le (by omega) (by omega)), bnd_e, n_add]
    · have := rn_lt hl; omega
  | succ d ih =>
    intro x g S hx hg hM hT
    obtain ⟨g, rfl⟩ : ∃ e, g = e + 1 := ⟨g - 1, by omega⟩
    obtain ⟨l, hl, rfl⟩ := rn_sur (show x < 7737 by omega)
    have hf : ∀ k, k ≠ 49 → st S 49 (7737 * (8 + i) + rn l) (nI (rn (ef c i l).1)) k = S k := fun k hk => st_ne hk
    have hT' : mkT (st S 49 (7737 * (8 + i) + rn l) (nI (rn (ef c i l).1))) c (8 + i) := fun k l' hk hl' => by
      have := rn_lt hl'
      rw [st_n (by omega)]
      exact hT k l' hk hl'
    obtain ⟨S', b1, b2, b3, b4⟩ := ih (rn l + 1) g _ (by omega) (by omega) (hM.k49 hf) hT'
    refine ⟨S', ?_, fun k hk => (b2 k hk).trans (hf k hk), fun y hy => ?_, fun l' hl' h => ?_⟩
    · rw [f_X7_findMakes_87, if_neg (nI_ge (by omega) (by omega)), madeBy_ok hN hc hm hM hT hl, cal_s, n_add, n_mul, n_add, if_pos ((inb_i (by omega)).mpr (by omega)), n_cl (by omega), bnd_e, bnd_e, n_add, b1]
    · rw [b3 y (by omega), st_n (by omega)]
    · by_cases e : rn l' = rn l
      · have := rn_inj hl' hl e
        subst this
        rw [b3 _ (by omega), st_s]
      · exact b4 l' hl' (by omega)
theorem fm_macs {N : Nat} (hN : 7740 ≤ N) {c : List Mac} (hc : okC c) : ∀ (d i g : Nat) (S : St), i + d = c.length → d < g → CfM S c → S 32 27 = nI 0 → mkT S c (8 + i) → ∃ S', f_X7_findMakes_70 N g S (nI i) = some ((), S') ∧ (∀ k, k ≠ 49 → k ≠ 32 → S' k = S k) ∧ (∀ j, j ≠ 27 → S' 32 j = S 32 j) ∧ S' 32 27 = nI 1 ∧ mkT S' c (8 + c.length) := by
  have h3 := hc.1
  intro d
  induction d with
  | zero =>
    intro i g S hi hg hM h27 hT
    obtain ⟨g, rfl⟩ : ∃ e, g = e + 1 := ⟨g - 1, by omega⟩
    refine ⟨st S 32 27 (nI 1), ?_, fun k _ hk => st_ne hk, fun j hj => st_n hj, st_s, ?_⟩
    · rw [f_X7_findMakes_70, hM.1, if_pos (nI_le (by omega) (by omega)), bnd_e]
    · intro k l hk hl
      rw [st_ne (by decide)]
      exact hT k l (by omega) hl
  | succ d ih =>
    intro i g S hi hg hM h27 hT
    obtain ⟨g, rfl⟩ : ∃ e, g = e + 1 := ⟨g - 1, by omega⟩
    obtain ⟨S1, b1, b2, b3, b4⟩ := fm_mac (N := N) (by omega) hc (List.getElem?_eq_getElem (show i < c.length by omega)) (f_X7_findMakes_70 N g) 7737 0 N S (by omega) (by omega) hM hT
    obtain ⟨S', d1, d2, d3, d4, d5⟩ := ih (i + 1) g S1 (by omega) (by omega) (hM.k49 b2) (by rw [b2 32 (by decide)]; exact h27) (fun k l hk hl => by
      have := rn_lt hl
      by_cases e : k = 8 + i
      · subst e; rw [b4 l hl (Nat.zero_le _), go_m]
      · rw [b3 _ (by omega)]; exact hT k l (by omega) hl)
    refine ⟨S', ?_, fun k h1 h2 => (d2 k h1 h2).trans (b2 k h1), fun j hj => (d3 j hj).trans (by rw [b2 32 (by decide)]), d4, d5⟩
    rw [f_X7_findMakes_70, hM.1, if_neg (nI_ge (by omega) (by omega)), if_pos (by rw [h27]; rfl), bnd_e, b1, d1]
/-- what the table's making may change -/
def frK (S S' : St) : Prop := (∀ k, k ≠ 32 → k ≠ 45 → k ≠ 49 → S' k = S k) ∧ ∀ j, j ≠ 20 → j ≠ 21 → j ≠ 22 → j ≠ 27 → j ≠ 28 → S' 32 j = S 32 j
theorem frK.rf (S : St) : frK S S := ⟨fun _ _ _ _ => rfl, fun _ _ _ _ _ _ => rfl⟩
theorem frK.tr {S T U : St} (h : frK S T) (g : frK T U) : frK S U := ⟨fun k a b c => (g.1 k a b c).trans (h.1 k a b c), fun j a b c d e => (g.2 j a b c d e).trans (h.2 j a b c d e)⟩
theorem frW.K {S S' : St} (h : frW S S') : frK S S' := ⟨fun k a b _ => h.1 k a b, fun j a b c _ _ => h.2 j a b c⟩
theorem fm_key {N : Nat} (hN : 8 ≤ N) (c : List Mac) {key : Nat} (hk : key < 8) (k2 : St → Int32 → Option (Unit × St)) : ∀ (d x g : Nat) (S : St), x + d = 7737 → d < g → mkT S c key → ∃ S', f_X7_findMakes_17 N k2 g S (nI key) (nI x) = k2 S' (nI (key + 1)) ∧ (∀ k, k ≠ 32 → k ≠ 45 → k ≠ 49 → S' k = S k) ∧ (∀ j, j ≠ 20 → j ≠ 21 → j ≠ 22 → S' 32 j = S 32 j) ∧ (∀ y, y < 7737 * key + x → S' 49 y = S 49 y) ∧ ∀ l, okL l → x ≤ rn l → S' 49 (7737 * key + rn l) = nI (rn (act key l)) := by
  intro d
  induction d with
  | zero =>
    intro x g S hx hg hT
    obtain ⟨g, rfl⟩ : ∃ e, g = e + 1 := ⟨g - 1, by omega⟩
    refine ⟨S, ?_, fun _ _ _ _ => rfl, fun _ _ _ _ => rfl, fun _ _ => rfl, fun l hl h => ?_⟩
    · rw [f_X7_findMakes_17, if_pos (nI_le (by omega) (by omega)), bnd_e, n_add]
    · have := rn_lt hl; omega
  | succ d ih =>
    intro x g S hx hg hT
    obtain ⟨g, rfl⟩ : ∃ e, g = e + 1 := ⟨g - 1, by omega⟩
    obtain ⟨l, hl, rfl⟩ := rn_sur (show x < 7737 by omega)
    obtain ⟨S1, a1, a2, a3, a4⟩ := workOn_ok (N := N) (by omega) S hl
    obtain ⟨S2, c1, c2, c3, c4⟩ := presses_ok (N := N) (by omega) S1 a2 hk
    have hf := a3.tr c3
    have h49 : S2 49 = S 49 := hf.1 49 (by decide) (by decide)
    have hT' : mkT (st S2 49 (7737 * key + rn l) (nI (rn (act key l)))) c key := fun k l' hk hl' => by
      have := rn_lt hl'
      rw [st_n (by omega), h49]
      exact hT k l' hk hl'
    obtain ⟨S', b1, b2, b3, b4, b5⟩ := ih (rn l + 1) g _ (by omega) (by omega) hT'
    refine ⟨S', ?_, fun k h1 h2 h3 => (b2 k h1 h2 h3).trans ((st_ne h3).trans (hf.1 k h1 h2)), fun j h1 h2 h3 => (b3 j h1 h2 h3).trans (by rw [st_ne (by decide)]; exact hf.2 j h1 h2 h3), fun y hy => ?_, fun l' hl' h => ?_⟩
    · rw [f_X7_findMakes_17, if_neg (nI_ge (by omega) (by omega)), a1, cal_s, c1, cal_s, number_ok (by omega) S2 c2, cal_s, n_mul, n_add, if_pos ((inb_i (by omega)).mpr (by omega)), n_cl (by omega), bnd_e, bnd_e, n_add, b1]
    · rw [b4 y (by omega), st_n (by omega), h49]
    · by_cases e : rn l' = rn l
      · have := rn_inj hl' hl e
        subst this
        rw [b4 _ (by omega), st_s]
      · exact b5 l' hl' (by omega)
theorem CfM.K {S S' : St} {c : List Mac} (h : CfM S c) (hf : frK S S') : CfM S' c := h.eq (hf.2 5 (by decide) (by decide) (by decide) (by decide) (by decide)) ⟨hf.1 36 (by decide) (by decide) (by decide), hf.1 37 (by decide) (by decide) (by decide), hf.1 38 (by decide) (by decide) (by decide), hf.1 39 (by decide) (by decide) (by decide)⟩
theorem frK.st28 (S : St) (v : Int32) : frK S (st S 32 28 v) := ⟨fun k a _ _ => st_ne a, fun j _ _ _ _ a => st_n a⟩
theorem frK.st27 (S : St) (v : Int32) : frK S (st S 32 27 v) := ⟨fun k a _ _ => st_ne a, fun j _ _ _ a _ => st_n a⟩
theorem fm_end {N : Nat} (hN : 7740 ≤ N) {c : List Mac} (hc : okC c) {S : St} (hM : CfM S c) (h28 : S 32 28 = nI 1) (hP : mkP S) (h27 : S 32 27 = nI 0 ∨ S 32 27 = nI 1 ∧ mkM S c) : ∃ S', f_X7_findMakes_70 N N S (nI 0) = some ((), S') ∧ frK S S' ∧ S' 32 28 = nI 1 ∧ S' 32 27 = nI 1 ∧ mkT S' c (8 + c.length) := by
  have h3 := hc.1
  have hT : mkT S c (8 + 0) := fun k l hk hl => by rw [go_p c (by omega)]; exact hP k l (by omega) hl
  rcases h27 with h27 | ⟨h27, hm⟩
  · obtain ⟨S', b1, b2, b3, b4, b5⟩ := fm_macs hN hc c.length 0 N S (by omega) (by omega) hM h27 hT
    exact ⟨S', b1, ⟨fun k h1 _ h2 => b2 k h2 h1, fun j _ _ _ h _ => b3 j h⟩, (b3 28 (by decide)).trans h28, b4, b5⟩
  · have hT2 : mkT S c (8 + c.length) := fun k l hk hl => by
      by_cases c8 : k < 8
      · rw [go_p c c8]; exact hP k l c8 hl
      · have := hm (k - 8) l (by omega) hl
        rw [← go_m, show 8 + (k - 8) = k by omega] at this
        exact this
    refine ⟨st S 32 27 (nI 1), ?_, frK.st27 _ _, by rw [st_n (by decide)]; exact h28, st_s, fun k l hk hl => by rw [st_ne (by decide)]; exact hT2 k l hk hl⟩
    obtain ⟨N, rfl⟩ : ∃ e, N = e + 1 := ⟨N - 1, by omega⟩
    by_cases c0 : c.length = 0
    · rw [f_X7_findMakes_70, hM.1, if_pos (nI_le (by omega) (by omega)), bnd_e]
    · rw [f_X7_findMakes_70, hM.1, if_neg (nI_ge (by omega) (by omega)), if_neg (by rw [h27]; decide), bnd_e]
theorem fm_keys {N : Nat} (hN : 7740 ≤ N) {c : List Mac} (hc : okC c) : ∀ (d key g : Nat) (S : St), key + d = 8 → d < g → CfM S c → S 32 28 = nI 0 → S 32 27 = nI 0 → mkT S c key → ∃ S', f_X7_findMakes_2 N g S (nI key) = some ((), S') ∧ frK S S' ∧ S' 32 28 = nI 1 ∧ S' 32 27 = nI 1 ∧ mkT S' c (8 + c.length) := by
  intro d
  induction d with
  | zero =>
    intro key g S hk hg hM h28 h27 hT
    obtain ⟨g, rfl⟩ : ∃ e, g = e + 1 := ⟨g - 1, by omega⟩
    obtain ⟨S', b1, b2, b3⟩ := fm_end hN hc (S := st S 32 28 (nI 1)) (hM.K (frK.st28 _ _)) st_s (fun k l hk1 hl => by rw [st_ne (by decide), hT k l (by omega) hl, go_p c hk1]) (Or.inl (by rw [st_n (by decide)]; exact h27))
    refine ⟨S', ?_, (frK.st28 _ _).tr b2, b3⟩
    rw [f_X7_findMakes_2, if_pos (nI_le (by omega) (by omega)), bnd_e, bnd_e, b1]
  | succ d ih =>
    intro key g S hk hg hM h28 h27 hT
    obtain ⟨g, rfl⟩ : ∃ e, g = e + 1 := ⟨g - 1, by omega⟩
    obtain ⟨S1, b1, b2, b3, b4, b5⟩ := fm_key (N := N) (by omega) c (key := key) (by omega) (f_X7_findMakes_2 N g) 7737 0 N S (by omega) (by omega) hT
    have hf : frK S S1 := ⟨b2, fun j h1 h2 h3 _ _ => b3 j h1 h2 h3⟩
    obtain ⟨S', d1, d2, d3⟩ := ih (key + 1) g S1 (by omega) (by omega) (hM.K hf) ((b3 28 (by decide) (by decide) (by decide)).trans h28) ((b3 27 (by decide) (by decide) (by decide)).trans h27) (fun k l hk hl => by
      have := rn_lt hl
      by_cases e : k = key
      · subst e; rw [b5 l hl (Nat.zero_le _), go_p c (by omega)]
      · rw [b4 _ (by omega)]; exact hT k l (by omega) hl)
    refine ⟨S', ?_, hf.tr d2, d3⟩
    rw [f_X7_findMakes_2, if_neg (nI_ge (by omega) (by omega)), if_pos (by rw [h28]; rfl), bnd_e, b1, d1]
theorem frK.M {S S' : St} (h : frK S S') : frM S S' := fun k hk => h.1 k (by omega) (by omega) (by omega)
theorem findMakes_ok {N : Nat} (hN : 7740 ≤ N) {S : St} {a : Ab} (h : RM S a) : ∃ S', f_X7_findMakes N S = some ((), S') ∧ RM S' a ∧ frM S S' ∧ mkT S' a.1 (8 + a.1.length) := by
  obtain ⟨k0, k1, k2, k3, k4, k5, k6, k7, k8⟩ := h
  obtain ⟨S', b1, b2, b3, b4, b5⟩ : ∃ S', f_X7_findMakes N S = some ((), S') ∧ frK S S' ∧ S' 32 28 = nI 1 ∧ S' 32 27 = nI 1 ∧ mkT S' a.1 (8 + a.1.length) := by
    rw [f_X7_findMakes, bnd_e]
    rcases k8.1 with h28 | ⟨h28, hP⟩
    · have h27 : S 32 27 = nI 0 := by
        rcases k8.2 with h | ⟨_, h, _⟩
        · exact h
        · rw [h28] at h; exact absurd h (by decide)
      exact fm_keys hN k0.1 8 0 N S (by omega) (by omega) k1 h28 h27 (fun k l hk _ => absurd hk (by omega))
    · obtain ⟨S', b1, b2, b3⟩ := fm_end hN k0.1 (S := st S 32 28 (nI 1)) (k1.K (frK.st28 _ _)) st_s (fun k l hk1 hl => by rw [st_ne (by decide)]; exact hP k l hk1 hl) (by
        rw [st_n (by decide)]
        rcases k8.2 with h | ⟨h, _, h2⟩
        · exact Or.inl h
        · exact Or.inr ⟨h, fun i l hi hl => by rw [st_ne (by decide)]; exact h2 i l hi hl⟩)
      refine ⟨S', ?_, (frK.st28 _ _).tr b2, b3⟩
      obtain ⟨N, rfl⟩ : ∃ e, N = e + 1 := ⟨N - 1, by omega⟩
      rw [f_X7_findMakes_2, if_neg (nI_ge (by omega) (by omega)), if_neg (by rw [h28]; decide), bnd_e, bnd_e, b1]
  refine ⟨S', b1, ⟨k0, k1.K b2, (b2.2 7 (by decide) (by decide) (by decide) (by decide) (by decide)).trans k2, (b2.2 6 (by decide) (by decide) (by decide) (by decide) (by decide)).trans k3, (b2.2 1 (by decide) (by decide) (by decide) (by decide) (by decide)).trans k4, (b2.2 0 (by decide) (by decide) (by decide) (by decide) (by decide)).trans k5, ⟨(b2.2 32 (by decide) (by decide) (by decide) (by decide) (by decide)).trans k6.1, fun r q hq => ?_⟩, fun j hj => ?_, ?_⟩, b2.M, b5⟩
  · rw [b2.1 52 (by decide) (by decide) (by decide), b2.1 53 (by decide) (by decide) (by decide)]
    exact k6.2 r q hq
  · rw [b2.1 33 (by decide) (by decide) (by decide), b2.1 34 (by decide) (by decide) (by decide), b2.1 35 (by decide) (by decide) (by decide)]
    exact k7 j hj
  · exact ⟨Or.inr ⟨b3, fun k l hk hl => by rw [b5 k l (by omega) hl, go_p a.1 hk]⟩, Or.inr ⟨b4, b3, fun i l hi hl => by rw [b5 (8 + i) l (by omega) hl, go_m]⟩⟩
