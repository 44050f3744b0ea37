/-! THE REFERENCE PLAYS: its own pile of macros -/
def CfM (S : St) (c : List Mac) : Prop := S 32 5 = nI c.length ∧ ∀ i m, c[i]? = some m → S 36 i = nI m.1 ∧ S 37 i = nI m.2.1 ∧ S 38 i = nI m.2.2.length ∧ ∀ j k, m.2.2[j]? = some k → S 39 (4 * i + j) = nI k
def frP (D : Nat) (S S' : St) : Prop := (∀ k, k ≠ 32 → k ≠ 45 → k ≠ 46 → k ≠ 47 → k ≠ 48 → S' k = S k) ∧ (∀ j, j ≠ 20 → j ≠ 21 → j ≠ 22 → S' 32 j = S 32 j) ∧ ∀ e, e < D → S' 46 e = S 46 e ∧ S' 47 e = S 47 e ∧ S' 48 e = S 48 e
theorem frP.rf (D : Nat) (S : St) : frP D S S := ⟨fun _ _ _ _ _ _ => rfl, fun _ _ _ _ => rfl, fun _ _ => ⟨rfl, rfl, rfl⟩⟩
theorem frP.tr {D E : Nat} {S T U : St} (h : frP D S T) (g : frP E T U) (hE : D ≤ E) : frP D S U :=
  ⟨fun k a b d e f => (g.1 k a b d e f).trans (h.1 k a b d e f), fun j a b d => (g.2.1 j a b d).trans (h.2.1 j a b d), fun e he => by
    obtain ⟨a, b, d⟩ := h.2.2 e he
    obtain ⟨x, y, z⟩ := g.2.2 e (by omega)
    exact ⟨x.trans a, y.trans b, z.trans d⟩⟩
theorem frW.P {D : Nat} {S S' : St} (h : frW S S') : frP D S S' := ⟨fun k a b _ _ _ => h.1 k a b, h.2, fun e _ => by rw [h.1 46 (by decide) (by decide), h.1 47 (by decide) (by decide), h.1 48 (by decide) (by decide)]; exact ⟨rfl, rfl, rfl⟩⟩
theorem frP.st46 {D : Nat} (S : St) {e : Nat} (h : D ≤ e) (v : Int32) : frP D S (st S 46 e v) := ⟨fun k _ _ a _ _ => st_ne a, fun j _ _ _ => by rw [st_ne (by decide)], fun x hx => ⟨st_n (by omega), by rw [st_ne (by decide)], by rw [st_ne (by decide)]⟩⟩
theorem frP.st47 {D : Nat} (S : St) {e : Nat} (h : D ≤ e) (v : Int32) : frP D S (st S 47 e v) := ⟨fun k _ _ _ a _ => st_ne a, fun j _ _ _ => by rw [st_ne (by decide)], fun x hx => ⟨by rw [st_ne (by decide)], st_n (by omega), by rw [st_ne (by decide)]⟩⟩
theorem frP.st48 {D : Nat} (S : St) {e : Nat} (h : D ≤ e) (v : Int32) : frP D S (st S 48 e v) := ⟨fun k _ _ _ _ a => st_ne a, fun j _ _ _ => by rw [st_ne (by decide)], fun x hx => ⟨by rw [st_ne (by decide)], by rw [st_ne (by decide)], st_n (by omega)⟩⟩
theorem CfM.fr {S S' : St} {c : List Mac} (h : CfM S c) (hf : frP 0 S S') : CfM S' c := by
  refine ⟨by rw [hf.2.1 5 (by decide) (by decide) (by decide)]; exact h.1, fun i m hm => ?_⟩
  rw [hf.1 36 (by decide) (by decide) (by decide) (by decide) (by decide), hf.1 37 (by decide) (by decide) (by decide) (by decide) (by decide), hf.1 38 (by decide) (by decide) (by decide) (by decide) (by decide), hf.1 39 (by decide) (by decide) (by decide) (by decide) (by decide)]
  exact h.2 i m hm
theorem frP.zero {D : Nat} {S S' : St} (h : frP D S S') : frP 0 S S' := ⟨h.1, h.2.1, fun e he => absurd he (by omega)⟩
theorem Reg.st {S : St} {l : Ln} (h : Reg S l) {q : Nat} (hq : q ≠ 32) (hq2 : q ≠ 45) (x : Nat) (v : Int32) : Reg (st S q x v) l := ⟨h.1, by rw [st_ne (Ne.symm hq)]; exact h.2.1, by rw [st_ne (Ne.symm hq)]; exact h.2.2.1, fun p hp => by rw [st_ne (Ne.symm hq2)]; exact h.2.2.2 p hp⟩
theorem oftenM_ok (N : Nat) {S : St} {c : List Mac} (hc : okC c) (h : CfM S c) {i : Nat} {m : Mac} (hm : c[i]? = some m) : f_X7_oftenOf N S (nI i) = some (nI (oft m), S) := by
  obtain ⟨a, b, d, e⟩ := h.2 i m hm
  obtain ⟨m1, m2, m3, m4, m5, m6⟩ := hc.2 i m hm
  have hi := (List.getElem?_eq_some_iff.mp hm).1
  have := hc.1
  have hin : inb (nI i) 3 = true := (inb_i (by omega)).mpr (by omega)
  rw [f_X7_oftenOf, if_pos hin, if_pos hin, if_pos hin, n_cl (by omega), a, b, if_pos hin, if_pos hin]
  unfold oft
  by_cases c0 : m.1 = 0
  · rw [if_pos (by rw [c0]; rfl), if_neg (by omega), if_neg (by omega)]
  · rw [if_neg (by rw [z_eq (by omega)]; exact c0)]
    by_cases c1 : m.1 = 1
    · rw [if_pos (by rw [c1]), if_pos c1, n_add]
    · rw [if_neg (by rw [n_eq (by omega) (by omega)]; exact c1), if_neg c1, if_pos (by omega), n_mul]
def repL (ks : List Nat) : Nat → List Nat
  | 0 => []
  | t + 1 => ks ++ repL ks t
theorem runE_app (e : Ef) : ∀ (a b : List Nat) (p : Ln × Nat), runE e (a ++ b) p = runE e b (runE e a p)
  | [], _, _ => rfl
  | k :: a, b, p => runE_app e a b (keyE e k p)
theorem repE_L (e : Ef) (ks : List Nat) : ∀ (t : Nat) (p : Ln × Nat), repE e ks t p = runE e (repL ks t) p
  | 0, _ => rfl
  | t + 1, p => by
    show repE e ks t (runE e ks p) = runE e (ks ++ repL ks t) p
    rw [runE_app, repE_L e ks t]
theorem repL_len (ks : List Nat) : ∀ t, (repL ks t).length = t * ks.length
  | 0 => by simp [repL]
  | t + 1 => by
    show (ks ++ repL ks t).length = _
    rw [List.length_append, repL_len ks t, Nat.succ_mul, Nat.add_comm]
theorem repL_mem {ks : List Nat} : ∀ {t k : Nat}, k ∈ repL ks t → k ∈ ks
  | 0, k, h => by cases h
  | t + 1, k, h => (List.mem_append.mp h).elim id repL_mem
def cb : Nat → Nat
  | 0 => 0
  | i + 1 => 1 + 24 * (1 + cb i)
theorem cb_mono : ∀ {a b : Nat}, a ≤ b → cb a ≤ cb b := by
  intro a b h
  induction b with
  | zero => rw [show a = 0 by omega]; exact Nat.le_refl _
  | succ b ih =>
    rcases Nat.lt_or_ge a (b + 1) with h1 | h1
    · have := ih (by omega)
      show cb a ≤ 1 + 24 * (1 + cb b)
      omega
    · rw [show a = b + 1 by omega]; exact Nat.le_refl _
/-- what stands on the pile's level D: macro i, t times left, the next key j; L the keys that are left of all -/
def Lev (S : St) (c : List Mac) (D i t j : Nat) (m : Mac) (L : List Nat) : Prop := c[i]? = some m ∧ S 46 D = nI i ∧ S 47 D = nI t ∧ S 48 D = nI j ∧ 1 ≤ t ∧ t ≤ 6 ∧ j ≤ m.2.2.length ∧ L = m.2.2.drop j ++ repL m.2.2 (t - 1)
theorem key_step {N : Nat} (hN : 7 ≤ N) {c : List Mac} (hc : okC c) {i D : Nat} (hD : D + i ≤ 2) {m : Mac} (hm : c[i]? = some m) {S : St} (hM : CfM S c) {l : Ln} (hR : Reg S l) {t j k : Nat} (ht : 1 ≤ t) (ht6 : t ≤ 6) (h47 : S 47 D = nI t) (h48 : S 48 D = nI j) (hk : m.2.2[j]? = some k) :
    (k < 8 → ∃ S', (∀ k27 : St → Int32 → Option (Unit × St), f_X7_plays_70 N k27 S (nI D) (nI i) = k27 S' (nI D)) ∧ Reg S' (act k l) ∧ S' 32 22 = S 32 22 + nI (b01 (bmp k l)) ∧ frP D S S' ∧ S' 46 D = S 46 D ∧ S' 47 D = nI t ∧ S' 48 D = nI (j + 1)) ∧
    (8 ≤ k → ∃ S' m', c[k - 8]? = some m' ∧ (∀ k27 : St → Int32 → Option (Unit × St), f_X7_plays_70 N k27 S (nI D) (nI i) = k27 S' (nI (D + 1))) ∧ Reg S' l ∧ S' 32 22 = S 32 22 ∧ frP D S S' ∧ S' 46 D = S 46 D ∧ S' 47 D = nI t ∧ S' 48 D = nI (j + 1) ∧ S' 46 (D + 1) = nI (k - 8) ∧ S' 47 (D + 1) = nI (oft m') ∧ S' 48 (D + 1) = nI 0) := by
  obtain ⟨a1, a2, a3, a4⟩ := hM.2 i m hm
  obtain ⟨m1, m2, m3, m4, m5, m6⟩ := hc.2 i m hm
  have hi := (List.getElem?_eq_some_iff.mp hm).1
  have hj := (List.getElem?_eq_some_iff.mp hk).1
  have hk8 := m6 k (List.mem_of_getElem? hk)
  have hin : inb (nI D) 3 = true := (inb_i (by omega)).mpr (by omega)
  have hin2 : inb (nI (4 * i + j)) 12 = true := (inb_i (by omega)).mpr (by omega)
  have hunf : ∀ k27 : St → Int32 → Option (Unit × St), f_X7_plays_70 N k27 S (nI D) (nI i) = (if nI 8 ≤ nI k then bnd (nI D + nI 1) (fun y3 => if inb y3 3 = true then bnd (st (st S 48 D (nI (j + 1))) 46 y3.toNatClampNeg (nI k - nI 8)) (fun S4 => if inb y3 3 = true then cal (f_X7_oftenOf N S4 (S4 46 y3.toNatClampNeg)) (fun r7 S5 => if inb y3 3 = true then bnd (st S5 47 y3.toNatClampNeg r7) (fun S8 => if inb y3 3 = true then bnd (st S8 48 y3.toNatClampNeg (nI 0)) (fun S9 => k27 S9 y3) else none) else none) else none) else none) else cal (f_X7_presses N (st S 48 D (nI (j + 1))) (nI k)) (fun _ S10 => k27 S10 (nI D))) := by
    intro k27
    rw [f_X7_plays_70, if_pos hin, n_cl (by omega), h47, if_neg (by rw [z_eq (by omega)]; omega), if_pos hin, h48, n_mul, n_add, if_pos hin2, bnd_e, n_cl (by omega), a4 j k hk, if_pos hin, if_pos hin, bnd_e, n_add j 1]
  constructor
  · intro h8
    obtain ⟨S', b1, b2, b3, b4⟩ := presses_ok hN (st S 48 D (nI (j + 1))) (hR.st (by decide) (by decide) D _) h8
    refine ⟨S', fun k27 => by rw [hunf k27, if_neg (nI_ge (by omega) (by omega)), b1, cal_s], b2, by rw [b4, st_ne (by decide)], (frP.st48 S (Nat.le_refl D) _).tr b3.P (Nat.le_refl D), ?_, ?_, ?_⟩
    · rw [b3.1 46 (by decide) (by decide), st_ne (by decide)]
    · rw [b3.1 47 (by decide) (by decide), st_ne (by decide), h47]
    · rw [b3.1 48 (by decide) (by decide), st_s]
  · intro h8
    obtain ⟨m', hm'⟩ : ∃ m', c[k - 8]? = some m' := ⟨c[k - 8]'(by omega), List.getElem?_eq_getElem _⟩
    have hin3 : inb (nI (D + 1)) 3 = true := (inb_i (by omega)).mpr (by omega)
    have hM2 : CfM (st (st S 48 D (nI (j + 1))) 46 (D + 1) (nI (k - 8))) c := hM.fr ((frP.st48 S (Nat.zero_le _) _).tr (frP.st46 _ (Nat.zero_le _) _) (Nat.le_refl 0))
    refine ⟨st (st (st (st S 48 D (nI (j + 1))) 46 (D + 1) (nI (k - 8))) 47 (D + 1) (nI (oft m'))) 48 (D + 1) (nI 0), m', hm', fun k27 => by rw [hunf k27, if_pos (nI_le (by omega) (by omega)), bnd_e, n_add, if_pos hin3, bnd_e, if_pos hin3, n_cl (by omega), n_sub (by omega), st_s, oftenM_ok N hc hM2 hm', cal_s, if_pos hin3, bnd_e, if_pos hin3, bnd_e], ?_, ?_, ?_, ?_, ?_, ?_, ?_, ?_, ?_⟩
    · exact (((hR.st (by decide) (by decide) _ _).st (by decide) (by decide) _ _).st (by decide) (by decide) _ _).st (by decide) (by decide) _ _
    · rw [st_ne (by decide), st_ne (by decide), st_ne (by decide), st_ne (by decide)]
    · exact (((frP.st48 S (Nat.le_refl D) _).tr (frP.st46 _ (show D ≤ D + 1 by omega) _) (Nat.le_refl D)).tr (frP.st47 _ (show D ≤ D + 1 by omega) _) (Nat.le_refl D)).tr (frP.st48 _ (show D ≤ D + 1 by omega) _) (Nat.le_refl D)
    · rw [st_ne (by decide), st_ne (by decide), st_n (by omega), st_ne (by decide)]
    · rw [st_ne (by decide), st_n (by omega), st_ne (by decide), st_ne (by decide), h47]
    · rw [st_n (by omega), st_ne (by decide), st_ne (by decide), st_s]
    · rw [st_ne (by decide), st_ne (by decide), st_s]
    · rw [st_ne (by decide), st_s]
    · rw [st_s]
/-- the loop at level D, until that level ends -/
theorem play_lev {N : Nat} (hN : 7 ≤ N) {c : List Mac} (hc : okC c) : ∀ (i : Nat) (L : List Nat) (t j D : Nat) (m : Mac) (S : St) (l : Ln) (b : Nat) (z : Int32), D + i ≤ 2 → CfM S c → Reg S l → Lev S c D i t j m L → S 32 22 = z + nI b → ∃ n S', n ≤ 1 + L.length * (1 + cb i) ∧ (∀ f, f_X7_plays_27 N (n + f) S (nI D) = f_X7_plays_27 N f S' (nI D + (-1 : Int32))) ∧ Reg S' (runE (ef c) L (l, b)).1 ∧ S' 32 22 = z + nI (runE (ef c) L (l, b)).2 ∧ frP D S S' := by
  intro i
  induction i using Nat.strongRecOn with
  | ind i ihi =>
  intro L
  induction L with
  | nil =>
    intro t j D m S l b z hD hM hR hL hz
    obtain ⟨hm, h46, h47, h48, t1, t6, hj, hLe⟩ := hL
    obtain ⟨a1, a2, a3, a4⟩ := hM.2 i m hm
    obtain ⟨m1, m2, m3, m4, m5, m6⟩ := hc.2 i m hm
    have hi := (List.getElem?_eq_some_iff.mp hm).1
    have hlen := congrArg List.length hLe
    rw [List.length_nil, List.length_append, List.length_drop, repL_len] at hlen
    have hj2 : j = m.2.2.length := by omega
    have ht : t = 1 := by
      rcases Nat.lt_or_ge t 2 with h | h
      · omega
      · have : 1 * 1 ≤ (t - 1) * m.2.2.length := Nat.mul_le_mul (by omega) m4
        omega
    subst ht
    have hin : inb (nI D) 3 = true := (inb_i (by omega)).mpr (by omega)
    have hin2 : inb (nI i) 3 = true := (inb_i (by omega)).mpr (by omega)
    refine ⟨1, st (st S 48 D (nI 0)) 47 D (nI 0), by omega, ?_, ?_, ?_, ?_⟩
    · intro f
      rw [Nat.add_comm, f_X7_plays_27, if_neg (nI_pos (by omega)), if_pos hin, bnd_e, n_cl (by omega), h46, if_pos hin, if_pos hin2, n_cl (by omega), h48, a3, if_pos (by rw [hj2]), if_pos hin, bnd_e, if_pos hin, if_pos hin, bnd_e, st_ne (by decide), h47, n_sub (by omega), f_X7_plays_70, if_pos hin, n_cl (by omega), st_s, if_pos (by rfl), bnd_e]
    · exact (hR.st (by decide) (by decide) _ _).st (by decide) (by decide) _ _
    · rw [st_ne (by decide), st_ne (by decide), hz]; rfl
    · exact (frP.st48 S (Nat.le_refl D) _).tr (frP.st47 _ (Nat.le_refl D) _) (Nat.le_refl D)
  | cons k L ihL =>
    intro t j D m S l b z hD hM hR hL hz
    obtain ⟨hm, h46, h47, h48, t1, t6, hj, hLe⟩ := hL
    obtain ⟨a1, a2, a3, a4⟩ := hM.2 i m hm
    obtain ⟨m1, m2, m3, m4, m5, m6⟩ := hc.2 i m hm
    have hi := (List.getElem?_eq_some_iff.mp hm).1
    have hin : inb (nI D) 3 = true := (inb_i (by omega)).mpr (by omega)
    have hin2 : inb (nI i) 3 = true := (inb_i (by omega)).mpr (by omega)
    -- the state in which the key is taken
    obtain ⟨S0, t', j', e0, hM0, hR0, f0, z0, g46, g47, g48, gt1, gt6, gk, gL⟩ : ∃ S0 t' j', (∀ f, f_X7_plays_27 N (f + 1) S (nI D) = f_X7_plays_70 N (f_X7_plays_27 N f) S0 (nI D) (nI i)) ∧ CfM S0 c ∧ Reg S0 l ∧ frP D S S0 ∧ S0 32 22 = z + nI b ∧ S0 46 D = nI i ∧ S0 47 D = nI t' ∧ S0 48 D = nI j' ∧ 1 ≤ t' ∧ t' ≤ 6 ∧ m.2.2[j']? = some k ∧ L = m.2.2.drop (j' + 1) ++ repL m.2.2 (t' - 1) := by
      by_cases hj2 : j = m.2.2.length
      · -- a round is over: the next begins
        rw [hj2, List.drop_length, List.nil_append] at hLe
        obtain ⟨u, hu⟩ : ∃ u, t - 1 = u + 1 := by
          rcases Nat.lt_or_ge t 2 with h | h
          · rw [show t - 1 = 0 by omega] at hLe; cases hLe
          · exact ⟨t - 2, by omega⟩
        rw [hu] at hLe
        have hLe : k :: L = m.2.2 ++ repL m.2.2 u := hLe
        obtain ⟨k0, ks, hks⟩ : ∃ k0 ks, m.2.2 = k0 :: ks := by
          cases hz9 : m.2.2 with
          | nil => rw [hz9] at m4; simp at m4
          | cons a b => exact ⟨a, b, rfl⟩
        have hcons : k = k0 ∧ L = ks ++ repL m.2.2 u := by
          rw [hks, List.cons_append] at hLe
          injection hLe with h1 h2
          rw [hks]
          exact ⟨h1, h2⟩
        have hfr : frP D S (st (st S 48 D (nI 0)) 47 D (nI (t - 1))) := (frP.st48 S (Nat.le_refl D) _).tr (frP.st47 _ (Nat.le_refl D) _) (Nat.le_refl D)
        refine ⟨st (st S 48 D (nI 0)) 47 D (nI (t - 1)), t - 1, 0, ?_, hM.fr hfr.zero, (hR.st (by decide) (by decide) _ _).st (by decide) (by decide) _ _, hfr, ?_, ?_, st_s, ?_, by omega, by omega, ?_, ?_⟩
        · intro f
          rw [f_X7_plays_27, if_neg (nI_pos (by omega)), if_pos hin, bnd_e, n_cl (by omega), h46, if_pos hin, if_pos hin2, n_cl (by omega), h48, a3, if_pos (by rw [hj2]), if_pos hin, bnd_e, if_pos hin, if_pos hin, bnd_e, st_ne (by decide), h47, n_sub (by omega)]
        · rw [st_ne (by decide), st_ne (by decide), hz]
        · rw [st_ne (by decide), st_ne (by decide), h46]
        · rw [st_ne (by decide), st_s]
        · rw [hks, hcons.1]; rfl
        · rw [hu, hcons.2, hks]; rfl
      · have hjl : j < m.2.2.length := by omega
        have hd : m.2.2.drop j = m.2.2[j] :: m.2.2.drop (j + 1) := List.drop_eq_getElem_cons hjl
        rw [hd, List.cons_append] at hLe
        injection hLe with h1 h2
        refine ⟨S, t, j, ?_, hM, hR, frP.rf D S, hz, h46, h47, h48, t1, t6, ?_, h2⟩
        · intro f
          rw [f_X7_plays_27, if_neg (nI_pos (by omega)), if_pos hin, bnd_e, n_cl (by omega), h46, if_pos hin, if_pos hin2, n_cl (by omega), h48, a3, if_neg (by rw [n_eq (by omega) (by omega)]; exact hj2)]
        · rw [List.getElem?_eq_getElem hjl, h1]
    have hj' := (List.getElem?_eq_some_iff.mp gk).1
    have hk8 := m6 k (List.mem_of_getElem? gk)
    have hcb : (L.length + 1) * (1 + cb i) = L.length * (1 + cb i) + (1 + cb i) := Nat.succ_mul _ _
    by_cases h8 : k < 8
    · -- a key of its own
      -- the step, at every fuel
      have hstep : ∃ S1, (∀ f, f_X7_plays_27 N (f + 1) S (nI D) = f_X7_plays_27 N f S1 (nI D)) ∧ Reg S1 (act k l) ∧ S1 32 22 = S0 32 22 + nI (b01 (bmp k l)) ∧ frP D S0 S1 ∧ S1 46 D = S0 46 D ∧ S1 47 D = nI t' ∧ S1 48 D = nI (j' + 1) := by
        obtain ⟨S1, b1, b2⟩ := (key_step hN hc hD hm hM0 hR0 gt1 gt6 g47 g48 gk).1 h8
        exact ⟨S1, fun f => (e0 f).trans (b1 _), b2⟩
      obtain ⟨S1, s1, s2, s3, s4, s5, s6, s7⟩ := hstep
      obtain ⟨n, S', q1, q2, q3, q4, q5⟩ := ihL t' (j' + 1) D m S1 (act k l) (b + b01 (bmp k l)) z hD (hM0.fr s4.zero) s2 ⟨hm, s5.trans g46, s6, s7, gt1, gt6, by omega, gL⟩ (by rw [s3, z0, Int32.add_assoc, n_add])
      have hke : keyE (ef c) k (l, b) = (act k l, b + b01 (bmp k l)) := by unfold keyE; rw [if_pos h8]
      refine ⟨n + 1, S', by rw [List.length_cons, hcb]; omega, ?_, ?_, ?_, (f0.tr s4 (Nat.le_refl D)).tr q5 (Nat.le_refl D)⟩
      · intro f
        rw [show n + 1 + f = n + f + 1 by omega, s1, q2]
      · show Reg S' (runE (ef c) L (keyE (ef c) k (l, b))).1
        rw [hke]; exact q3
      · show S' 32 22 = z + nI (runE (ef c) L (keyE (ef c) k (l, b))).2
        rw [hke]; exact q4
    · -- a macro: one more level
      obtain ⟨S1, m', hm', b1, s2, s3, s4, s5, s6, s7, s8, s9, s10⟩ := (key_step hN hc hD hm hM0 hR0 gt1 gt6 g47 g48 gk).2 (by omega)
      obtain ⟨m1', m2', m3', m4', m5', m6'⟩ := hc.2 (k - 8) m' hm'
      have ho : 1 ≤ oft m' ∧ oft m' ≤ 6 := by unfold oft; constructor <;> (split <;> (try split) <;> omega)
      have hL2 : repL m'.2.2 (oft m') = m'.2.2.drop 0 ++ repL m'.2.2 (oft m' - 1) := by
        obtain ⟨u, hu⟩ : ∃ u, oft m' = u + 1 := ⟨oft m' - 1, by omega⟩
        rw [hu]
        rfl
      obtain ⟨n1, S2, p1, p2, p3, p4, p5⟩ := ihi (k - 8) (by omega) (repL m'.2.2 (oft m')) (oft m') 0 (D + 1) m' S1 l b z (by omega) (hM0.fr s4.zero) s2 ⟨hm', s8, s9, s10, ho.1, ho.2, Nat.zero_le _, hL2⟩ (by rw [s3, z0])
      have hlen : (repL m'.2.2 (oft m')).length ≤ 24 := by
        rw [repL_len]
        exact Nat.mul_le_mul ho.2 m5'
      have hcost : n1 ≤ cb i := by
        have h1 : cb (k - 8 + 1) ≤ cb i := cb_mono (by omega)
        have h2 : (repL m'.2.2 (oft m')).length * (1 + cb (k - 8)) ≤ 24 * (1 + cb (k - 8)) := Nat.mul_le_mul_right _ hlen
        have h3 : cb (k - 8 + 1) = 1 + 24 * (1 + cb (k - 8)) := rfl
        omega
      obtain ⟨u46, u47, u48⟩ := p5.2.2 D (by omega)
      have hkk : ef c (k - 8) l = runE (ef c) (repL m'.2.2 (oft m')) (l, 0) := by rw [ef_eq hc hm', repE_L]
      have hrb : ∀ (L : List Nat) (l : Ln) (b : Nat), runE (ef c) L (l, b) = ((runE (ef c) L (l, 0)).1, b + (runE (ef c) L (l, 0)).2) := by
        intro L
        induction L with
        | nil => intro l b; rfl
        | cons q L iq =>
          intro l b
          show runE (ef c) L (keyE (ef c) q (l, b)) = ((runE (ef c) L (keyE (ef c) q (l, 0))).1, b + (runE (ef c) L (keyE (ef c) q (l, 0))).2)
          rw [keyE_0 (ef c) q l b, iq _ (b + _), iq (keyE (ef c) q (l, 0)).1 (keyE (ef c) q (l, 0)).2]
          dsimp only
          rw [Nat.add_assoc]
      have hke : keyE (ef c) k (l, b) = runE (ef c) (repL m'.2.2 (oft m')) (l, b) := by
        unfold keyE
        rw [if_neg h8]
        dsimp only
        rw [hkk, hrb _ l b]
      have fr2 : frP D S0 S2 := s4.tr p5 (by omega)
      generalize hrr : runE (ef c) (repL m'.2.2 (oft m')) (l, b) = rr at p3 p4 hke
      obtain ⟨n, S', q1, q2, q3, q4, q5⟩ := ihL t' (j' + 1) D m S2 rr.1 rr.2 z hD (hM0.fr fr2.zero) p3 ⟨hm, u46.trans (s5.trans g46), u47.trans s6, u48.trans s7, gt1, gt6, by omega, gL⟩ p4
      refine ⟨n1 + n + 1, S', by rw [List.length_cons, hcb]; omega, ?_, ?_, ?_, (f0.tr fr2 (Nat.le_refl D)).tr q5 (Nat.le_refl D)⟩
      · intro f
        rw [show n1 + n + 1 + f = n1 + (n + f) + 1 by omega, e0, b1, p2, m_1 (by omega), show D + 1 - 1 = D by omega, q2]
      · show Reg S' (runE (ef c) L (keyE (ef c) k (l, b))).1
        rw [hke]; exact q3
      · show S' 32 22 = z + nI (runE (ef c) L (keyE (ef c) k (l, b))).2
        rw [hke]; exact q4
/-- a macro is played on the line that is worked on -/
theorem plays_ok {N : Nat} (hN : 15100 ≤ N) {c : List Mac} (hc : okC c) {S : St} (hM : CfM S c) {l : Ln} (hR : Reg S l) {i : Nat} (hi : i < c.length) : ∃ S', f_X7_plays N S (nI i) = some ((), S') ∧ Reg S' (ef c i l).1 ∧ S' 32 22 = S 32 22 + nI (ef c i l).2 ∧ frP 0 S S' := by
  obtain ⟨m, hm⟩ : ∃ m, c[i]? = some m := ⟨c[i], List.getElem?_eq_getElem hi⟩
  obtain ⟨m1, m2, m3, m4, m5, m6⟩ := hc.2 i m hm
  have hi3 := hc.1
  have hin : inb (nI 0) 3 = true := by decide
  have ho : 1 ≤ oft m ∧ oft m ≤ 6 := by unfold oft; constructor <;> (split <;> (try split) <;> omega)
  have hf1 : frP 0 S (st S 46 0 (nI i)) := frP.st46 S (Nat.le_refl 0) _
  have hf2 : frP 0 S (st (st (st S 46 0 (nI i)) 47 0 (nI (oft m))) 48 0 (nI 0)) := (hf1.tr (frP.st47 _ (Nat.le_refl 0) _) (Nat.le_refl 0)).tr (frP.st48 _ (Nat.le_refl 0) _) (Nat.le_refl 0)
  have hL2 : repL m.2.2 (oft m) = m.2.2.drop 0 ++ repL m.2.2 (oft m - 1) := by
    obtain ⟨u, hu⟩ : ∃ u, oft m = u + 1 := ⟨oft m - 1, by omega⟩
    rw [hu]
    rfl
  obtain ⟨n, S', q1, q2, q3, q4, q5⟩ := play_lev (N := N) (by omega) hc i (repL m.2.2 (oft m)) (oft m) 0 0 m (st (st (st S 46 0 (nI i)) 47 0 (nI (oft m))) 48 0 (nI 0)) l 0 (S 32 22) (by omega) (hM.fr hf2) (((hR.st (by decide) (by decide) _ _).st (by decide) (by decide) _ _).st (by decide) (by decide) _ _) ⟨hm, by rw [st_ne (by decide), st_ne (by decide), st_s], by rw [st_ne (by decide), st_s], st_s, ho.1, ho.2, Nat.zero_le _, hL2⟩ (by rw [st_ne (by decide), st_ne (by decide), st_ne (by decide)]; exact (Int32.add_zero _).symm)
  have hkk : ef c i l = runE (ef c) (repL m.2.2 (oft m)) (l, 0) := by rw [ef_eq hc hm, repE_L]
  rw [← hkk] at q3 q4
  have hlen : (repL m.2.2 (oft m)).length ≤ 24 := by
    rw [repL_len]
    exact Nat.mul_le_mul ho.2 m5
  have hcost : n ≤ 15025 := by
    have h2 : (repL m.2.2 (oft m)).length * (1 + cb i) ≤ 24 * (1 + cb i) := Nat.mul_le_mul_right _ hlen
    have h3 : cb i ≤ cb 2 := cb_mono (by omega)
    have h4 : cb 2 = 625 := rfl
    omega
  refine ⟨S', ?_, q3, q4, hf2.tr q5 (Nat.le_refl 0)⟩
  rw [f_X7_plays, bnd_e, if_pos hin, bnd_e, n_cl (by omega), oftenM_ok N hc (hM.fr hf1) hm, cal_s, if_pos hin, bnd_e, if_pos hin, bnd_e]
  obtain ⟨f, hf⟩ : ∃ f, N = n + (f + 1) := ⟨N - n - 1, by omega⟩
  have hq := q2 (f + 1)
  rw [← hf] at hq
  rw [hq, f_X7_plays_27, if_pos (by decide)]
