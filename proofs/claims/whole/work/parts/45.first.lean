/-! the class's search comes to the first of the fewest rows -/
def Chn (S : St) (l0 : Ln) : Ln → List Nat → Prop
  | l, [] => l = l0 ∧ S 8 (cn l) = -1
  | l, k :: ks => ∃ l', okL l' ∧ S 8 (cn l) = nI (1 + (cn l' * 16 + k)) ∧ k < 16 ∧ Chn S l0 l' ks
theorem Chn.kp {S S' : St} {l0 : Ln} (hk : kp S S') : ∀ (ks : List Nat) (l : Ln), okL l → Chn S l0 l ks → Chn S' l0 l ks
  | [], l, hl, ⟨h1, h2⟩ => ⟨h1, by rw [hk l hl (by rw [h2]; decide)]; exact h2⟩
  | k :: ks, l, hl, ⟨l', h1, h2, h3, h4⟩ => ⟨l', h1, by
      have := cn_lt h1
      rw [hk l hl (by rw [h2]; exact by_ne (by omega))]; exact h2, h3, Chn.kp hk ks l' h1 h4⟩
/-- the first line nearest so far waits, and how it was come to is the first row's beginning -/
def Inv (c : List Mac) (D : Ln → Nat) (l0 : Ln) (S : St) (q : List Ln) (W : Nat → Ln → Prop) : Prop := ∃ p s ks, q[p]? = some s ∧ W p s ∧ (∀ p' e, p' < p → q[p']? = some e → D s < D e) ∧ (∀ e ∈ q, D s ≤ D e) ∧ Chn S l0 s ks ∧ pth c D (D l0) l0 = ks.reverse ++ pth c D (D s) s ∧ 0 < D s ∧ D s ≤ 7736
def Fnd (c : List Mac) (D : Ln → Nat) (l0 : Ln) (S : St) (o : Option (Int32 × St)) : Prop := ∃ r S' ks, o = some (nI (cn r), S') ∧ okL r ∧ Chn S' l0 r ks ∧ pth c D (D l0) l0 = ks.reverse ∧ KC S' c ∧ frS S S'
theorem fst_in {N : Nat} (hN : 8 ≤ N) {c : List Mac} (hc : okC c) (k33 : St → Int32 → Int32 → Int32 → Option (Int32 × St)) {goal : Int32} {D : Ln → Nat} (h0 : ∀ l, okL l → (D l = 0 ↔ hasG goal l = true)) (he : ∀ l k, okL l → k < 8 + c.length → D l ≤ D (go c k l) + 1) (hx : ∀ l, okL l → D l ≠ 0 → D l ≤ 7736 → ∃ k, k < 8 + c.length ∧ D (go c k l) + 1 = D l) (l0 : Ln) {h : Nat} {f : Ln} (hf : okL f) : ∀ (d k g : Nat) (S : St) (q : List Ln), k + d = 8 + c.length → d < g → QC S q → q[h]? = some f → KC S c → Inv c D l0 S q (fun p s => h + 1 ≤ p ∨ (p = h ∧ k ≤ nk c D s)) → Fnd c D l0 S (f_X4_find_62 N k33 g S (nI 0) goal (nI h) (nI (cn f)) (nI k)) ∨ ∃ S' q', f_X4_find_62 N k33 g S (nI 0) goal (nI h) (nI (cn f)) (nI k) = k33 S' (nI 0) goal (nI (h + 1)) ∧ QC S' q' ∧ KC S' c ∧ frS S S' ∧ Inv c D l0 S' q' (fun p _ => h + 1 ≤ p) := by
  have h3 := hc.1
  intro d
  induction d with
  | zero =>
    intro k g S q hk hg hQ hh hK hI
    obtain ⟨g, rfl⟩ : ∃ e, g = e + 1 := ⟨g - 1, by omega⟩
    refine Or.inr ⟨S, q, find_last hc k33 g hK _ goal _ h (by omega), hQ, hK, frS.rf S, ?_⟩
    obtain ⟨p, s, ks, i1, i2, i3, i4, i5, i6, i7, i8⟩ := hI
    refine ⟨p, s, ks, i1, ?_, i3, i4, i5, i6, i7, i8⟩
    rcases i2 with z | ⟨_, z⟩
    · exact z
    · have := (nk_ok (hx s (hQ.2.1 s (List.mem_of_getElem? i1)) (by omega) i8)).2.1
      omega
  | succ d ih =>
    intro k g S q hk hg hQ hh hK hI
    obtain ⟨g, rfl⟩ : ∃ e, g = e + 1 := ⟨g - 1, by omega⟩
    obtain ⟨p, s, ks, i1, i2, i3, i4, i5, i6, i7, i8⟩ := hI
    have hs : okL s := hQ.2.1 s (List.mem_of_getElem? i1)
    have hgo := go_ok hc (k := k) (by omega) hf
    have hone := find_one hN hc k33 g hQ hK hf (k := k) (by omega) (nI 0) goal (nI h)
    have hlt := (List.getElem?_eq_some_iff.mp hh).1
    have hEd := he f k hf (by omega)
    have hpl := (List.getElem?_eq_some_iff.mp i1).1
    have hstep : ∀ {S1 : St}, (f_X4_find_62 N k33 (g + 1) S (nI 0) goal (nI h) (nI (cn f)) (nI k) = f_X4_find_62 N k33 g S1 (nI 0) goal (nI h) (nI (cn f)) (nI (k + 1))) → frS S S1 → ∀ {q1 : List Ln}, QC S1 q1 → q1[h]? = some f → KC S1 c → Inv c D l0 S1 q1 (fun p s => h + 1 ≤ p ∨ (p = h ∧ k + 1 ≤ nk c D s)) → Fnd c D l0 S (f_X4_find_62 N k33 (g + 1) S (nI 0) goal (nI h) (nI (cn f)) (nI k)) ∨ ∃ S' q', f_X4_find_62 N k33 (g + 1) S (nI 0) goal (nI h) (nI (cn f)) (nI k) = k33 S' (nI 0) goal (nI (h + 1)) ∧ QC S' q' ∧ KC S' c ∧ frS S S' ∧ Inv c D l0 S' q' (fun p _ => h + 1 ≤ p) := by
      intro S1 e1 e2 q1 e3 e4 e5 e6
      rw [e1]
      rcases ih (k + 1) g S1 q1 (by omega) (by omega) e3 e4 e5 e6 with ⟨r, S', ks, a1, a2, a3, a4, a5, a6⟩ | ⟨S', q', a1, a2, a3, a4, a5⟩
      · exact Or.inl ⟨r, S', ks, a1, a2, a3, a4, a5, e2.tr a6⟩
      · exact Or.inr ⟨S', q', a1, a2, a3, e2.tr a4, a5⟩
    by_cases hcase : p = h ∧ k = nk c D s
    · -- the first row goes on
      obtain ⟨rfl, hkn⟩ := hcase
      have hfs : s = f := by rw [hh] at i1; exact (Option.some.inj i1).symm
      subst hfs
      obtain ⟨n1, n2, n3⟩ := nk_ok (hx s hs (by omega) i8)
      rw [← hkn] at n1
      have hnq : ¬ go c k s ∈ q := fun z => by have := i4 _ z; omega
      obtain ⟨S1, b1, b2, b3, b4, b5, b6⟩ := hone.2 hnq
      have hch : Chn S1 l0 (go c k s) (k :: ks) := ⟨s, hs, b6, by omega, Chn.kp b5 ks s hs i5⟩
      have hp : pth c D (D l0) l0 = (k :: ks).reverse ++ pth c D (D (go c k s)) (go c k s) := by
        rw [i6, ← n1, List.reverse_cons, List.append_assoc]
        show ks.reverse ++ (nk c D s :: pth c D (D (go c k s)) (go c (nk c D s) s)) = _
        rw [← hkn]
        rfl
      by_cases hg0 : hasG goal (go c k s) = true
      · rw [if_pos hg0] at b1
        refine Or.inl ⟨_, S1, k :: ks, b1, hgo, hch, ?_, b3, b4⟩
        rw [hp, (h0 _ hgo).mpr hg0]
        show _ ++ [] = _
        rw [List.append_nil]
      · rw [if_neg hg0] at b1
        refine hstep b1 b4 b2 (by rw [List.getElem?_append_left hlt]; exact hh) b3 ⟨q.length, go c k s, k :: ks, ?_, Or.inl hlt, fun p' e hp' hq' => ?_, fun e he' => ?_, hch, hp, ?_, by omega⟩
        · rw [List.getElem?_append_right (Nat.le_refl _), Nat.sub_self]; rfl
        · rw [List.getElem?_append_left hp'] at hq'
          have := i4 e (List.mem_of_getElem? hq')
          omega
        · rcases List.mem_append.mp he' with z | z
          · have := i4 e z; omega
          · rw [List.mem_singleton.mp z]; exact Nat.le_refl _
        · rcases Nat.eq_zero_or_pos (D (go c k s)) with z | z
          · exact absurd ((h0 _ hgo).mp z) hg0
          · exact z
    · -- it stays
      have hDn : D s ≤ D (go c k f) := by
        rcases i2 with z | ⟨z1, z2⟩
        · have := i3 h f (by omega) hh
          omega
        · subst z1
          have hfs : s = f := by rw [hh] at i1; exact (Option.some.inj i1).symm
          subst hfs
          have hkl : k < nk c D s := by
            rcases Nat.lt_or_ge k (nk c D s) with w | w
            · exact w
            · exact absurd ⟨rfl, by omega⟩ hcase
          have := (nk_ok (hx s hs (by omega) i8)).2.2 k hkl
          omega
      have i2' : h + 1 ≤ p ∨ (p = h ∧ k + 1 ≤ nk c D s) := by
        rcases i2 with z | ⟨z1, z2⟩
        · exact Or.inl z
        · refine Or.inr ⟨z1, ?_⟩
          rcases Nat.lt_or_ge k (nk c D s) with w | w
          · exact w
          · exact absurd ⟨z1, by omega⟩ hcase
      by_cases hin : go c k f ∈ q
      · obtain ⟨S1, b1, b2, b3, b4, b5⟩ := hone.1 hin
        exact hstep b1 b4 b2 hh b3 ⟨p, s, ks, i1, i2', i3, i4, Chn.kp b5 ks s hs i5, i6, i7, i8⟩
      · obtain ⟨S1, b1, b2, b3, b4, b5, b6⟩ := hone.2 hin
        rw [if_neg (fun z => by have := (h0 _ hgo).mpr z; omega)] at b1
        refine hstep b1 b4 b2 (by rw [List.getElem?_append_left hlt]; exact hh) b3 ⟨p, s, ks, by rw [List.getElem?_append_left hpl]; exact i1, i2', fun p' e hp' hq' => ?_, fun e he' => ?_, Chn.kp b5 ks s hs i5, i6, i7, i8⟩
        · rw [List.getElem?_append_left (by omega)] at hq'
          exact i3 p' e hp' hq'
        · rcases List.mem_append.mp he' with z | z
          · exact i4 e z
          · rw [List.mem_singleton.mp z]; exact hDn
theorem fst_out {N : Nat} (hN : 20 ≤ N) {c : List Mac} (hc : okC c) {goal : Int32} {D : Ln → Nat} (h0 : ∀ l, okL l → (D l = 0 ↔ hasG goal l = true)) (he : ∀ l k, okL l → k < 8 + c.length → D l ≤ D (go c k l) + 1) (hx : ∀ l, okL l → D l ≠ 0 → D l ≤ 7736 → ∃ k, k < 8 + c.length ∧ D (go c k l) + 1 = D l) (l0 : Ln) : ∀ (d h g : Nat) (S : St) (q : List Ln), h + d = 7737 → d < g → QC S q → KC S c → Inv c D l0 S q (fun p _ => h ≤ p) → Fnd c D l0 S (f_X4_find_33 N g S (nI 0) goal (nI h)) := by
  have h3 := hc.1
  intro d
  induction d with
  | zero =>
    intro h g S q hh hg hQ hK hI
    obtain ⟨p, s, ks, i1, i2, i3⟩ := hI
    have := (List.getElem?_eq_some_iff.mp i1).1
    have := nd_len hQ.1 hQ.2.1
    omega
  | succ d ih =>
    intro h g S q hh hg hQ hK hI
    obtain ⟨g, rfl⟩ : ∃ e, g = e + 1 := ⟨g - 1, by omega⟩
    obtain ⟨p, s, ks, i1, i2, i3⟩ := hI
    have hp := (List.getElem?_eq_some_iff.mp i1).1
    have := nd_len hQ.1 hQ.2.1
    have hl : h < q.length := by omega
    obtain ⟨f, hf⟩ : ∃ f, q[h]? = some f := ⟨_, List.getElem?_eq_getElem hl⟩
    have hfo := hQ.2.1 f (List.mem_of_getElem? hf)
    rw [f_X4_find_33, hQ.2.2.1, if_neg (nI_ge hl (by omega)), if_neg (nI_ge (by omega) (by omega)), if_pos ((inb_i (by omega)).mpr (by omega)), n_cl (by omega), bnd_e, hQ.2.2.2.1 h f hf]
    rcases fst_in (N := N) (by omega) hc (f_X4_find_33 N g) h0 he hx l0 hfo (8 + c.length) 0 N S q (by omega) (by omega) hQ hf hK ⟨p, s, ks, i1, by
        rcases Nat.lt_or_ge h p with z | z
        · exact Or.inl z
        · exact Or.inr ⟨by omega, Nat.zero_le _⟩, i3⟩ with z | ⟨S', q', a1, a2, a3, a4, a5⟩
    · exact z
    · rw [a1]
      obtain ⟨r, S2, ks2, e1, e2, e3, e4, e5, e6⟩ := ih (h + 1) g S' q' (by omega) (by omega) a2 a3 a5
      exact ⟨r, S2, ks2, e1, e2, e3, e4, e5, a4.tr e6⟩
/-- the search from a line to the letters told -/
theorem find_ok {N : Nat} (hN : 7740 ≤ N) {c : List Mac} {goal : Int32} {S : St} (hK : KC S c) {l : Ln} (hl : okL l) : (Dt c (hasG goal) l ≤ 7736 → Fnd c (Dt c (hasG goal)) l S (f_X4_find N S (nI (cn l)) (nI 0) goal)) ∧ (Dt c (hasG goal) l = 99999 → ∃ S', f_X4_find N S (nI (cn l)) (nI 0) goal = some ((-9 : Int32), S') ∧ KC S' c ∧ frS S S') := by
  have hc := hK.1
  obtain ⟨S1, b1, b2, b3, b4, b5⟩ := find_0 hN hK hl (nI 0) goal
  have h0 : ∀ l, okL l → (Dt c (hasG goal) l = 0 ↔ hasG goal l = true) := fun l _ => Dt_0
  constructor
  · intro hD
    rw [b1]
    by_cases hg : hasG goal l = true
    · rw [if_pos hg]
      refine ⟨l, S1, [], rfl, hl, ⟨rfl, b5⟩, ?_, b3, b4⟩
      rw [(h0 l hl).mpr hg]
      rfl
    · rw [if_neg hg]
      obtain ⟨r, S2, ks2, e1, e2, e3, e4, e5, e6⟩ := fst_out (N := N) (by omega) hc h0 (fun l k hl hk => Dt_e hc hl hk) (fun l _ h1 h2 => Dt_x h1 (by omega)) l 7737 0 N S1 [l] (by omega) (by omega) b2 b3 ⟨0, l, [], rfl, Nat.zero_le _, fun p' e hp' => absurd hp' (by omega), fun e he => by rw [List.mem_singleton.mp he]; exact Nat.le_refl _, ⟨rfl, b5⟩, by rw [List.reverse_nil, List.nil_append], by
        rcases Nat.eq_zero_or_pos (Dt c (hasG goal) l) with z | z
        · exact absurd ((h0 l hl).mp z) hg
        · exact z, hD⟩
      exact ⟨r, S2, ks2, e1, e2, e3, e4, e5, b4.tr e6⟩
  · intro hD
    obtain ⟨S', d1, d2, d3, d4⟩ := find_no (N := N) (by omega) hc goal (I := fun l => okL l ∧ Dt c (hasG goal) l = 99999) (k0 := 0) (Nat.zero_le _) (fun l hl => ⟨hl.1, ts_nt' (fun z => by have := (h0 l hl.1).mpr z; omega)⟩) (fun l k hl _ hk => ⟨go_ok hc hk hl.1, by
      have h1 := Dt_e (G := hasG goal) hc hl.1 hk
      rcases Dt_b (G := hasG goal) hc (go_ok hc hk hl.1) with z | z
      · have := hl.2; omega
      · exact z⟩) 7737 0 N S1 [l] (by omega) (by omega) b2 (fun e he => by rw [List.mem_singleton.mp he]; exact ⟨hl, hD⟩) b3
    refine ⟨S', ?_, d3, b4.tr d4⟩
    rw [b1, if_neg (fun z => by have := (h0 l hl).mpr z; omega), d1]
theorem by_sh {x k : Nat} (hx : x < 7737) (hk : k < 16) : (nI (1 + (x * 16 + k)) - nI 1) = nI (x * 16 + k) ∧ nI (x * 16 + k) >>> (nI 4 &&& (31 : Int32)) = nI x ∧ nI (x * 16 + k) &&& nI 15 = nI k := by
  refine ⟨by rw [n_sub (by omega), Nat.add_sub_cancel_left], ?_, ?_⟩
  · rw [sh_r (by omega) (by decide)]
    congr 1
    omega
  · rw [and_m 4 (by omega) (by decide) (by decide)]
    congr 1
    omega
theorem steps_l {N : Nat} {S : St} {l0 : Ln} : ∀ (ks : List Nat) (l : Ln) (t g : Nat), okL l → Chn S l0 l ks → t + ks.length < 7737 → ks.length < g → f_X4_stepsTo_4 N g S (nI t) (nI (cn l)) = some (nI (t + ks.length), S) := by
  intro ks
  induction ks with
  | nil =>
    intro l t g hl h ht hg
    obtain ⟨g, rfl⟩ : ∃ e, g = e + 1 := ⟨g - 1, by omega⟩
    have := cn_lt hl
    rw [f_X4_stepsTo_4, isLine_ok N S this, cal_s, if_neg (by decide), if_pos ((inb_i (by omega)).mpr this), n_cl (by omega), h.2, if_pos (by decide)]
    rfl
  | cons k ks ih =>
    intro l t g hl h ht hg
    obtain ⟨g, rfl⟩ : ∃ e, g = e + 1 := ⟨g - 1, by omega⟩
    obtain ⟨l', h1, h2, h3, h4⟩ := h
    rw [List.length_cons] at ht hg ⊢
    have := cn_lt hl
    have := cn_lt h1
    obtain ⟨y1, y2, y3⟩ := by_sh (cn_lt h1) h3
    have hin : inb (nI (cn l)) 7737 = true := (inb_i (by omega)).mpr (by omega)
    rw [f_X4_stepsTo_4, isLine_ok N S (cn_lt hl), cal_s, if_neg (by decide), if_pos hin, n_cl (by omega), h2, if_neg (by rw [z_le (by omega)]; omega), if_neg (nI_ge (by omega) (by omega)), if_pos hin, bnd_e, bnd_e, y1, y2, n_add, ih l' (t + 1) g h1 h4 (by omega) (by omega), show t + 1 + ks.length = t + (ks.length + 1) by omega]
theorem keyTo_l {N : Nat} {S : St} {l0 : Ln} {j : Nat} (hj : j < 2147483648) : ∀ (ks : List Nat) (l : Ln) (g : Nat), okL l → Chn S l0 l ks → ks.length < 7737 → ks.length < g → f_X4_keyTo_11 N g S (nI j) (nI (cn l)) (nI ks.length - nI 1) = some (match ks.reverse[j]? with | some k => nI k | none => (-9 : Int32), S) := by
  intro ks
  induction ks with
  | nil =>
    intro l g hl h ht hg
    obtain ⟨g, rfl⟩ : ∃ e, g = e + 1 := ⟨g - 1, by omega⟩
    rw [f_X4_keyTo_11, if_pos (by decide)]
    rfl
  | cons k ks ih =>
    intro l g hl h ht hg
    obtain ⟨g, rfl⟩ : ∃ e, g = e + 1 := ⟨g - 1, by omega⟩
    obtain ⟨l', h1, h2, h3, h4⟩ := h
    rw [List.length_cons] at ht hg ⊢
    have := cn_lt hl
    have := cn_lt h1
    obtain ⟨y1, y2, y3⟩ := by_sh (cn_lt h1) h3
    rw [neg1, f_X4_keyTo_11, if_neg (nI_pos (by omega)), isLine_ok N S (cn_lt hl), cal_s, if_neg (by decide), if_pos ((inb_i (by omega)).mpr (by omega)), n_cl (by omega), h2, bnd_e, y1, y2, y3, bnd_e, bnd_e, neg1_s, List.reverse_cons]
    by_cases e : ks.length = j
    · subst e
      rw [if_pos rfl, List.getElem?_append_right (by rw [List.length_reverse]; exact Nat.le_refl _), List.length_reverse, Nat.sub_self]
      rfl
    · rw [if_neg (by rw [n_eq (by omega) (by omega)]; exact e), ih l' g h1 h4 (by omega) (by omega)]
      rcases Nat.lt_or_ge j ks.length with z | z
      · rw [List.getElem?_append_left (by rw [List.length_reverse]; exact z)]
      · rw [List.getElem?_eq_none (by rw [List.length_reverse]; exact z), List.getElem?_eq_none (by rw [List.length_append, List.length_reverse]; show ks.length + 1 ≤ j; omega)]
