/-! THE CLASS PLAYS: effectOf, by the effects that are kept -/
/-- what a key does to a line is told by a function, for the keys below a bound -/
def FeOk (fe : St → Int32 → Int32 → Option (Int32 × St)) (c : List Mac) (b : Nat) : Prop := ∀ S l key, KC S c → okL l → key < b → key < 8 + c.length → ∃ S', fe S (nI (cn l)) (nI key) = some (nI (pk (keyE (ef c) key (l, 0))), S') ∧ KC S' c ∧ fr3 S S'
theorem keyE_0 (e : Ef) (k : Nat) (l : Ln) (b : Nat) : keyE e k (l, b) = ((keyE e k (l, 0)).1, b + (keyE e k (l, 0)).2) := by
  unfold keyE
  by_cases h : k < 8
  · rw [if_pos h, if_pos h]; dsimp only; rw [Nat.zero_add]
  · rw [if_neg h, if_neg h]; dsimp only; rw [Nat.zero_add]
theorem played_in {N : Nat} {fe : St → Int32 → Int32 → Option (Int32 × St)} {c : List Mac} (hc : okC c) {i : Nat} {m : Mac} (hm : c[i]? = some m) (hfe : FeOk fe c (8 + i)) (k15 : St → Nat → Int32 → Int32 → Int32 → Int32 → Int32 → Option (Int32 × St)) (o r : Int32) : ∀ (suf : List Nat) (j f : Nat) (S : St) (p : Ln × Nat), j + suf.length = m.2.2.length → (∀ q k, suf[q]? = some k → m.2.2[j + q]? = some k) → suf.length < f → KC S c → okL p.1 → ∃ S', f_X0_played_25 N fe k15 f S i (nI i) (nI (cn p.1)) (nI p.2) o r (nI j) = k15 S' i (nI i) (nI (cn (runE (ef c) suf p).1)) (nI (runE (ef c) suf p).2) o (r + nI 1) ∧ KC S' c ∧ fr3 S S' := by
  have hi := (List.getElem?_eq_some_iff.mp hm).1
  have hi3 : i < 3 := Nat.lt_of_lt_of_le hi hc.1
  obtain ⟨m1, m2, m3, m4, m5, m6⟩ := hc.2 i m hm
  intro suf
  induction suf with
  | nil =>
    intro j f S p hj _ hf hK hp
    obtain ⟨g, rfl⟩ : ∃ g, f = g + 1 := ⟨f - 1, by omega⟩
    obtain ⟨a1, a2, a3, a4⟩ := hK.2.1.2 i m hm
    rw [List.length_nil] at hj
    rw [f_X0_played_25, a3, if_pos (nI_le (by omega) (by omega)), bnd_e]
    exact ⟨S, rfl, hK, fun _ _ => rfl⟩
  | cons k suf ih =>
    intro j f S p hj hq hf hK hp
    obtain ⟨g, rfl⟩ : ∃ g, f = g + 1 := ⟨f - 1, by omega⟩
    obtain ⟨a1, a2, a3, a4⟩ := hK.2.1.2 i m hm
    rw [List.length_cons] at hj hf
    have hk : m.2.2[j]? = some k := hq 0 k rfl
    have hk8 := m6 k (List.mem_of_getElem? hk)
    rw [f_X0_played_25, a3, if_neg (nI_ge (by omega) (by omega)), keyAt_ok N hK hm hk, cal_s, n_add, if_neg (nI_ge (by omega) (by omega))]
    obtain ⟨S1, b1, b2, b3⟩ := hfe S p.1 k hK hp hk8 (by omega)
    have hke := keyE_ok hc (k := k) (by omega) (p := (p.1, 0)) hp
    have hb2 : (keyE (ef c) k (p.1, 0)).2 ≤ 200000 := by have := hke.2; dsimp only at this; omega
    rw [b1, cal_s, bumpsOf_pk N S1 hke.1 hb2, cal_s, bnd_e, lineOf_pk N S1 hke.1 hb2, cal_s, bnd_e, n_add, n_add]
    have e1 := keyE_0 (ef c) k p.1 p.2
    obtain ⟨S', d1, d2, d3⟩ := ih (j + 1) g S1 (keyE (ef c) k p) (by omega) (fun q k' h => by rw [Nat.add_assoc, Nat.add_comm 1 q]; exact hq (q + 1) k' h) (by omega) b2 (by rw [e1]; exact hke.1)
    refine ⟨S', ?_, d2, fun z hz => (d3 z hz).trans (b3 z hz)⟩
    rw [e1] at d1
    exact d1.trans (by rw [← e1]; rfl)
theorem played_out {N : Nat} {fe : St → Int32 → Int32 → Option (Int32 × St)} {c : List Mac} (hN : 7 ≤ N) (hc : okC c) {i : Nat} {m : Mac} (hm : c[i]? = some m) (hfe : FeOk fe c (8 + i)) (l0 : Ln) (hl0 : okL l0) : ∀ (t r f : Nat) (S : St) (p : Ln × Nat), r + t = oft m → t < f → KC S c → okL p.1 → repE (ef c) m.2.2 t p = ef c i l0 → ∃ S', f_X0_played_15 N fe f S i (nI i) (nI (cn p.1)) (nI p.2) (nI (oft m)) (nI r) = some (nI (pk (ef c i l0)), S') ∧ KC S' c ∧ fr3 S S' := by
  have hi := (List.getElem?_eq_some_iff.mp hm).1
  have hi3 : i < 3 := Nat.lt_of_lt_of_le hi hc.1
  obtain ⟨m1, m2, m3, m4, m5, m6⟩ := hc.2 i m hm
  have ho : oft m ≤ 6 := by unfold oft; split <;> (try split) <;> omega
  have hb := ef_b hc hi3 hl0
  have hcn := cn_lt (ef_ok hc i l0 hl0).1
  intro t
  induction t with
  | zero =>
    intro r f S p hr hf hK hp he
    obtain ⟨g, rfl⟩ : ∃ g, f = g + 1 := ⟨f - 1, by omega⟩
    have he : p = ef c i l0 := he
    rw [f_X0_played_15, if_pos (nI_le (by omega) (by omega)), he, sh_l (by omega) (by omega), or_p (a := _) 13 (by omega)]
    exact ⟨S, rfl, hK, fun _ _ => rfl⟩
  | succ t ih =>
    intro r f S p hr hf hK hp he
    obtain ⟨g, rfl⟩ : ∃ g, f = g + 1 := ⟨f - 1, by omega⟩
    rw [f_X0_played_15, if_neg (nI_ge (by omega) (by omega)), bnd_e]
    obtain ⟨S1, a1, a2, a3⟩ := played_in (N := N) hc hm hfe (f_X0_played_15 N fe g) (nI (oft m)) (nI r) m.2.2 0 N S p (by omega) (fun q k h => by rw [Nat.zero_add]; exact h) (by omega) hK hp
    rw [a1, n_add]
    have hrun : okL (runE (ef c) m.2.2 p).1 := by
      have : ∀ ks : List Nat, (∀ k ∈ ks, k < 8 + i) → ∀ p : Ln × Nat, okL p.1 → okL (runE (ef c) ks p).1 := by
        intro ks
        induction ks with
        | nil => intro _ p hp; exact hp
        | cons k ks ik => intro hks p hp; exact ik (fun q hq => hks q (List.mem_cons_of_mem _ hq)) _ (keyE_ok hc (by have := hks k List.mem_cons_self; omega) hp).1
      exact this m.2.2 m6 p hp
    obtain ⟨S', b1, b2, b3⟩ := ih (r + 1) g S1 (runE (ef c) m.2.2 p) (by omega) (by omega) a2 hrun he
    exact ⟨S', b1, b2, fun z hz => (b3 z hz).trans (a3 z hz)⟩
theorem played_ok {N : Nat} (hN : 8 ≤ N) {fe : St → Int32 → Int32 → Option (Int32 × St)} {c : List Mac} (hc : okC c) {i : Nat} {m : Mac} (hm : c[i]? = some m) (hfe : FeOk fe c (8 + i)) (S : St) (hK : KC S c) {l : Ln} (hl : okL l) : ∃ S', f_X0_played N fe S (nI (cn l)) i (nI i) = some (nI (pk (ef c i l)), S') ∧ KC S' c ∧ fr3 S S' := by
  obtain ⟨m1, m2, m3, m4, m5, m6⟩ := hc.2 i m hm
  have ho : oft m ≤ 6 := by unfold oft; split <;> (try split) <;> omega
  rw [f_X0_played, bnd_e, often_ok N hK hm, cal_s, bnd_e]
  exact played_out (by omega) hc hm hfe l hl (oft m) 0 N S (l, 0) (by omega) (by omega) hK hl (ef_eq hc hm l).symm
theorem fr3.st (S : St) (x : Nat) (v : Int32) : fr3 S (st S 3 x v) := fun k hk => st_ne hk
theorem ts_nt' {x : Bool} (h : ¬ x = true) : x = false := by cases x <;> simp_all
/-- a macro's effect: kept already, or played now and kept -/
theorem eff_mac {N : Nat} (hN : 8 ≤ N) {c : List Mac} (hc : okC c) {fe : St → Int32 → Int32 → Option (Int32 × St)} {d : Nat} (hfe : ∀ j, j < d + 1 → FeOk fe c (8 + j)) (S : St) (l : Ln) (key : Nat) (hK : KC S c) (hl : okL l) (h8 : 8 ≤ key) (hk : key < 8 + (d + 1)) (hkc : key < 8 + c.length) : ∃ S', f_X0_effectOf N fe S (nI (cn l)) (nI key) = some (nI (pk (keyE (ef c) key (l, 0))), S') ∧ KC S' c ∧ fr3 S S' := by
  obtain ⟨i, rfl⟩ : ∃ i, key = 8 + i := ⟨key - 8, by omega⟩
  have hi : i < c.length := by omega
  have hi3 : i < 3 := Nat.lt_of_lt_of_le hi hc.1
  obtain ⟨m, hm⟩ : ∃ m, c[i]? = some m := ⟨c[i], List.getElem?_eq_getElem hi⟩
  have hcl := cn_lt hl
  have hpk := pke_lt hc hi3 hl
  have hkey : keyE (ef c) (8 + i) (l, 0) = ef c i l := by
    unfold keyE
    rw [if_neg (by omega), show 8 + i - 8 = i by omega]
    dsimp only
    rw [Nat.zero_add]
  rw [hkey, f_X0_effectOf, if_pos (nI_le (by omega) (by omega)), bnd_e, n_sub (by omega), show 8 + i - 8 = i by omega, macroOf_ok N hK hi, cal_s, opt_1, if_pos (by omega), isLine_ok N S hcl, cal_s, if_neg (by decide), bnd_e, n_mul, n_add, if_pos ((inb_i (by omega)).mpr (by omega)), n_cl (by omega)]
  rcases hK.2.2 i (cn l) hi3 hcl with h0 | ⟨l', _, hl', hcc, hv⟩
  · rw [if_pos h0]
    obtain ⟨S1, a1, a2, a3⟩ := played_ok hN hc hm (hfe i (by omega)) S hK hl
    rw [a1, cal_s, if_pos ((inb_i (by omega)).mpr (by omega)), bnd_e, f_X0_effectOf_89, if_pos ((inb_i (by omega)).mpr (by omega)), n_cl (by omega), st_s, n_add, n_sub (by omega), show 1 + pk (ef c i l) - 1 = pk (ef c i l) by omega]
    have hf : fr3 S (st S1 3 (i * 7737 + cn l) (nI (1 + pk (ef c i l)))) := fun z hz => (st_ne hz).trans (a3 z hz)
    refine ⟨_, rfl, hK.of3 hf ?_, hf⟩
    intro i' x' hi' hx'
    by_cases hs : i' * 7737 + x' = i * 7737 + cn l
    · have e1 : i' = i := by omega
      have e2 : x' = cn l := by omega
      subst e1 e2
      rw [st_s]
      exact Or.inr ⟨l, hi, hl, rfl, rfl⟩
    · rw [st_n hs]
      exact a2.2.2 i' x' hi' hx'
  · have e1 : l' = l := cn_inj hl' hl hcc
    subst e1
    rw [hv, if_neg (by rw [z_eq (by omega)]; omega), f_X0_effectOf_89, if_pos ((inb_i (by omega)).mpr (by omega)), n_cl (by omega), hv, n_sub (by omega), show 1 + pk (ef c i l') - 1 = pk (ef c i l') by omega]
    exact ⟨S, rfl, hK, fun _ _ => rfl⟩
theorem effect_ok {N : Nat} (hN : 8 ≤ N) (c : List Mac) (hc : okC c) : ∀ d, d ≤ 3 → FeOk (g_X0_effectOf N (d + 1)) c (8 + d) := by
  intro d
  induction d with
  | zero =>
    intro _ S l key hK hl hk _
    refine ⟨S, ?_, hK, fun _ _ => rfl⟩
    have hcl := cn_lt hl
    have hca := cn_lt (act_ok hl (key := key) (by omega))
    show f_X0_effectOf N (g_X0_effectOf N 0) S (nI (cn l)) (nI key) = _
    have hkey : keyE (ef c) key (l, 0) = (act key l, b01 (bmp key l)) := by
      unfold keyE
      rw [if_pos (show key < 8 by omega)]
      dsimp only
      rw [Nat.zero_add]
    rw [hkey, f_X0_effectOf, if_neg (nI_ge (by omega) (by omega)), after_ok (by omega) S hl (by omega), cal_s]
    by_cases hb : bmp key l = true
    · rw [(bmp_act hl (by omega)).mp hb, if_pos rfl, hb]
      have := or_p (a := 1) (b := cn l) 13 (by omega)
      rw [show (1 * 2 ^ 13 : Nat) = 8192 from rfl] at this
      rw [this]
      show some (nI (8192 + cn l), S) = some (nI (1 * 8192 + cn l), S)
      rw [Nat.one_mul]
    · have hne : ¬ nI (cn (act key l)) = nI (cn l) := by
        rw [n_eq (by omega) (by omega)]
        exact fun z => hb ((bmp_act hl (by omega)).mpr (cn_inj (act_ok hl (by omega)) hl z))
      rw [if_neg hne, ts_nt' hb]
      show some (nI (cn (act key l)), S) = some (nI (0 * 8192 + cn (act key l)), S)
      rw [show 0 * 8192 + cn (act key l) = cn (act key l) by omega]
  | succ d ih =>
    intro hd S l key hK hl hk hkc
    by_cases h8 : key < 8 + d
    · by_cases h7 : key < 8
      · obtain ⟨S', a1, a2, a3⟩ := ih (by omega) S l key hK hl h8 hkc
        refine ⟨S', ?_, a2, a3⟩
        have hx : ∀ fe, f_X0_effectOf N fe S (nI (cn l)) (nI key) = f_X0_effectOf N (g_X0_effectOf N d) S (nI (cn l)) (nI key) := fun fe => by
          rw [f_X0_effectOf, f_X0_effectOf, if_neg (nI_ge (by omega) (by omega)), if_neg (nI_ge (by omega) (by omega))]
        exact (hx _).trans a1
      · exact eff_mac (d := d) hN hc (fun j hj => by have := ih (by omega); exact fun S l k h1 h2 h3 h4 => this S l k h1 h2 (by omega) h4) S l key hK hl (by omega) (by omega) hkc
    · exact eff_mac (d := d) hN hc (fun j hj => by have := ih (by omega); exact fun S l k h1 h2 h3 h4 => this S l k h1 h2 (by omega) h4) S l key hK hl (by omega) (by omega) hkc
