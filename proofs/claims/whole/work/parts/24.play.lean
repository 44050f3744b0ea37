/-! MACROS: what a told row of macros does to lines, without any state -/
abbrev Mac : Type := Nat × Nat × List Nat
def oft (m : Mac) : Nat := if m.1 = 1 then m.2.1 + 1 else if m.1 = 2 then 2 * m.2.1 else m.2.1
def okM (i : Nat) (m : Mac) : Prop := m.1 ≤ 2 ∧ 1 ≤ m.2.1 ∧ m.2.1 ≤ 3 ∧ 1 ≤ m.2.2.length ∧ m.2.2.length ≤ 4 ∧ ∀ k ∈ m.2.2, k < 8 + i
def okC (c : List Mac) : Prop := c.length ≤ 3 ∧ ∀ i m, c[i]? = some m → okM i m
abbrev Ef : Type := Nat → Ln → Ln × Nat
def keyE (ef : Ef) (k : Nat) (p : Ln × Nat) : Ln × Nat := if k < 8 then (act k p.1, p.2 + b01 (bmp k p.1)) else ((ef (k - 8) p.1).1, p.2 + (ef (k - 8) p.1).2)
def runE (ef : Ef) : List Nat → Ln × Nat → Ln × Nat
  | [], p => p
  | k :: ks, p => runE ef ks (keyE ef k p)
def repE (ef : Ef) (ks : List Nat) : Nat → Ln × Nat → Ln × Nat
  | 0, p => p
  | t + 1, p => repE ef ks t (runE ef ks p)
def efD (c : List Mac) : Nat → Ef
  | 0, _, l => (l, 0)
  | d + 1, i, l => match c[i]? with
    | none => (l, 0)
    | some m => repE (efD c d) m.2.2 (oft m) (l, 0)
/-- a macro played: the line then, and how many keys bump -/
def ef (c : List Mac) : Ef := fun i l => efD c (i + 1) i l
def pk (p : Ln × Nat) : Nat := p.2 * 8192 + cn p.1
theorem keyE_c {e1 e2 : Ef} {k : Nat} (h : 8 ≤ k → ∀ l, e1 (k - 8) l = e2 (k - 8) l) (p : Ln × Nat) : keyE e1 k p = keyE e2 k p := by
  unfold keyE
  by_cases c : k < 8
  · rw [if_pos c, if_pos c]
  · rw [if_neg c, if_neg c, h (by omega)]
theorem runE_c {e1 e2 : Ef} : ∀ (ks : List Nat), (∀ k ∈ ks, 8 ≤ k → ∀ l, e1 (k - 8) l = e2 (k - 8) l) → ∀ p, runE e1 ks p = runE e2 ks p
  | [], _, _ => rfl
  | k :: ks, h, p => by
    show runE e1 ks (keyE e1 k p) = runE e2 ks (keyE e2 k p)
    rw [keyE_c (h k List.mem_cons_self), runE_c ks (fun q hq => h q (List.mem_cons_of_mem _ hq))]
theorem repE_c {e1 e2 : Ef} {ks : List Nat} (h : ∀ k ∈ ks, 8 ≤ k → ∀ l, e1 (k - 8) l = e2 (k - 8) l) : ∀ t p, repE e1 ks t p = repE e2 ks t p
  | 0, _ => rfl
  | t + 1, p => by
    show repE e1 ks t (runE e1 ks p) = repE e2 ks t (runE e2 ks p)
    rw [runE_c ks h, repE_c h t]
theorem efD_eq {c : List Mac} (hc : okC c) : ∀ i d, i < d → ∀ l, efD c d i l = ef c i l := by
  intro i
  induction i using Nat.strongRecOn with
  | ind i ih =>
    intro d hd l
    obtain ⟨d, rfl⟩ : ∃ g, d = g + 1 := ⟨d - 1, by omega⟩
    show (match c[i]? with | none => (l, 0) | some m => repE (efD c d) m.2.2 (oft m) (l, 0)) = (match c[i]? with | none => (l, 0) | some m => repE (efD c i) m.2.2 (oft m) (l, 0))
    cases hm : c[i]? with
    | none => rfl
    | some m =>
      have hk := (hc.2 i m hm).2.2.2.2.2
      exact repE_c (fun k hk1 hk2 l => by
        have := hk k hk1
        rw [ih (k - 8) (by omega) d (by omega), ih (k - 8) (by omega) i (by omega)]) _ _
theorem ef_eq {c : List Mac} (hc : okC c) {i : Nat} {m : Mac} (hm : c[i]? = some m) (l : Ln) : ef c i l = repE (ef c) m.2.2 (oft m) (l, 0) := by
  have hk := (hc.2 i m hm).2.2.2.2.2
  show (match c[i]? with | none => (l, 0) | some m => repE (efD c i) m.2.2 (oft m) (l, 0)) = _
  rw [hm]
  exact repE_c (fun k hk1 hk2 l => by
    have := hk k hk1
    exact efD_eq hc (k - 8) i (by omega) l) _ _
theorem b01_le (b : Bool) : b01 b ≤ 1 := by cases b <;> decide
/-- lines stay lines; how many keys can bump -/
theorem ef_ok {c : List Mac} (hc : okC c) : ∀ i, ∀ l, okL l → okL (ef c i l).1 ∧ (ef c i l).2 ≤ 24 ^ (i + 1) := by
  intro i
  induction i using Nat.strongRecOn with
  | ind i ih =>
    intro l hl
    cases hm : c[i]? with
    | none =>
      have : ef c i l = (l, 0) := by
        show (match c[i]? with | none => (l, 0) | some m => repE (efD c i) m.2.2 (oft m) (l, 0)) = _
        rw [hm]
      rw [this]
      exact ⟨hl, Nat.zero_le _⟩
    | some m =>
      rw [ef_eq hc hm]
      obtain ⟨m1, m2, m3, m4, m5, m6⟩ := hc.2 i m hm
      have hkey : ∀ k, k < 8 + i → ∀ p : Ln × Nat, okL p.1 → okL (keyE (ef c) k p).1 ∧ (keyE (ef c) k p).2 ≤ p.2 + 24 ^ i := by
        intro k hk p hp
        unfold keyE
        by_cases h8 : k < 8
        · rw [if_pos h8]
          refine ⟨act_ok hp h8, ?_⟩
          have := b01_le (bmp k p.1)
          have : 1 ≤ 24 ^ i := Nat.pow_pos (by decide)
          show p.2 + b01 (bmp k p.1) ≤ _
          omega
        · rw [if_neg h8]
          obtain ⟨q1, q2⟩ := ih (k - 8) (by omega) p.1 hp
          refine ⟨q1, Nat.add_le_add_left (Nat.le_trans q2 (Nat.pow_le_pow_right (by decide) (by omega))) _⟩
      have hrun : ∀ ks : List Nat, (∀ k ∈ ks, k < 8 + i) → ∀ p : Ln × Nat, okL p.1 → okL (runE (ef c) ks p).1 ∧ (runE (ef c) ks p).2 ≤ p.2 + ks.length * 24 ^ i := by
        intro ks
        induction ks with
        | nil => intro _ p hp; exact ⟨hp, by simp [runE]⟩
        | cons k ks ik =>
          intro hks p hp
          obtain ⟨q1, q2⟩ := hkey k (hks k List.mem_cons_self) p hp
          obtain ⟨q3, q4⟩ := ik (fun q hq => hks q (List.mem_cons_of_mem _ hq)) _ q1
          refine ⟨q3, ?_⟩
          show (runE (ef c) ks (keyE (ef c) k p)).2 ≤ _
          rw [List.length_cons, Nat.succ_mul]
          omega
      have hrep : ∀ t, ∀ p : Ln × Nat, okL p.1 → okL (repE (ef c) m.2.2 t p).1 ∧ (repE (ef c) m.2.2 t p).2 ≤ p.2 + t * (m.2.2.length * 24 ^ i) := by
        intro t
        induction t with
        | zero => intro p hp; exact ⟨hp, by simp [repE]⟩
        | succ t it =>
          intro p hp
          obtain ⟨q1, q2⟩ := hrun m.2.2 m6 p hp
          obtain ⟨q3, q4⟩ := it _ q1
          refine ⟨q3, ?_⟩
          show (repE (ef c) m.2.2 t (runE (ef c) m.2.2 p)).2 ≤ _
          rw [Nat.succ_mul]
          omega
      obtain ⟨r1, r2⟩ := hrep (oft m) (l, 0) hl
      refine ⟨r1, Nat.le_trans r2 ?_⟩
      have ho : oft m ≤ 6 := by unfold oft; split <;> (try split) <;> omega
      have h1 : m.2.2.length * 24 ^ i ≤ 4 * 24 ^ i := Nat.mul_le_mul_right _ m5
      have h2 : oft m * (m.2.2.length * 24 ^ i) ≤ 6 * (4 * 24 ^ i) := Nat.mul_le_mul ho h1
      rw [Nat.pow_succ]
      show 0 + _ ≤ _
      omega
theorem ef_b {c : List Mac} (hc : okC c) {i : Nat} (hi : i < 3) {l : Ln} (hl : okL l) : (ef c i l).2 ≤ 13824 := Nat.le_trans (ef_ok hc i l hl).2 (show 24 ^ (i + 1) ≤ 24 ^ 3 from Nat.pow_le_pow_right (by decide) (by omega))
/-! the class: macros, and what is kept of their effects -/
def CfC (S : St) (c : List Mac) : Prop := S 1 0 = nI c.length ∧ ∀ i m, c[i]? = some m → S (20 + i) 0 = nI m.1 ∧ S (20 + i) 1 = nI m.2.1 ∧ S (20 + i) 2 = nI m.2.2.length ∧ ∀ j k, m.2.2[j]? = some k → S (26 + i) j = nI k
def Cch (S : St) (c : List Mac) : Prop := ∀ i x, i < 3 → x < 7737 → S 3 (i * 7737 + x) = 0 ∨ ∃ l, i < c.length ∧ okL l ∧ cn l = x ∧ S 3 (i * 7737 + x) = nI (1 + pk (ef c i l))
def KC (S : St) (c : List Mac) : Prop := okC c ∧ CfC S c ∧ Cch S c
/-- only the kept effects changed -/
def fr3 (S S' : St) : Prop := ∀ k, k ≠ 3 → S' k = S k
theorem KC.of3 {S S' : St} {c : List Mac} (h : KC S c) (hf : fr3 S S') (hc : Cch S' c) : KC S' c := by
  refine ⟨h.1, ⟨by rw [hf 1 (by decide)]; exact h.2.1.1, fun i m hm => ?_⟩, hc⟩
  have := (List.getElem?_eq_some_iff.mp hm).1
  have := h.1.1
  obtain ⟨a, b, d, e⟩ := h.2.1.2 i m hm
  rw [hf (20 + i) (by omega), hf (26 + i) (by omega)]
  exact ⟨a, b, d, e⟩
theorem pke_lt {c : List Mac} (hc : okC c) {i : Nat} (hi : i < 3) {l : Ln} (hl : okL l) : pk (ef c i l) < 134217728 := by
  have h1 := ef_b hc hi hl
  have h2 := cn_lt (ef_ok hc i l hl).1
  unfold pk
  omega
theorem keyE_ok {c : List Mac} (hc : okC c) {k : Nat} (hk : k < 8 + 3) {p : Ln × Nat} (hp : okL p.1) : okL (keyE (ef c) k p).1 ∧ (keyE (ef c) k p).2 ≤ p.2 + 13824 := by
  unfold keyE
  by_cases h8 : k < 8
  · rw [if_pos h8]
    have := b01_le (bmp k p.1)
    exact ⟨act_ok hp h8, by dsimp only; omega⟩
  · rw [if_neg h8]
    have := ef_b hc (i := k - 8) (by omega) hp
    exact ⟨(ef_ok hc _ _ hp).1, by dsimp only; omega⟩
theorem lineOf_pk (N : Nat) (S : St) {p : Ln × Nat} (h : okL p.1) (hb : p.2 ≤ 200000) : f_X0_lineOf N S (nI (pk p)) = some (nI (cn p.1), S) := by
  have := cn_lt h
  unfold pk
  rw [f_X0_lineOf, and_m 13 (by omega) (by omega) rfl]
  have e : (p.2 * 8192 + cn p.1) % (8191 + 1) = cn p.1 := by omega
  rw [e]
theorem bumpsOf_pk (N : Nat) (S : St) {p : Ln × Nat} (h : okL p.1) (hb : p.2 ≤ 200000) : f_X0_bumpsOf N S (nI (pk p)) = some (nI p.2, S) := by
  have := cn_lt h
  unfold pk
  rw [f_X0_bumpsOf, sh_r (by omega) (by omega)]
  have e : (p.2 * 8192 + cn p.1) / 2 ^ 13 = p.2 := by omega
  rw [e]
theorem often_ok (N : Nat) {S : St} {c : List Mac} (h : KC S c) {i : Nat} {m : Mac} (hm : c[i]? = some m) : f_X2_often N S i = some (nI (oft m), S) := by
  obtain ⟨a, b, d, e⟩ := h.2.1.2 i m hm
  obtain ⟨m1, m2, m3, m4, m5, m6⟩ := h.1.2 i m hm
  rw [f_X2_often, bnd_e, a, b]
  unfold oft
  by_cases c1 : m.1 = 1
  · rw [if_pos (by rw [c1]), if_pos c1, n_add]
  · rw [if_neg (by rw [n_eq (by omega) (by omega)]; exact c1), if_neg c1]
    by_cases c2 : m.1 = 2
    · rw [if_pos (by rw [c2]), if_pos c2, n_mul]
    · rw [if_neg (by rw [n_eq (by omega) (by omega)]; exact c2), if_neg c2]
theorem keyAt_ok (N : Nat) {S : St} {c : List Mac} (h : KC S c) {i : Nat} {m : Mac} (hm : c[i]? = some m) {j k : Nat} (hk : m.2.2[j]? = some k) : f_X2_keyAt N S i (nI j) = some (nI k, S) := by
  obtain ⟨m1, m2, m3, m4, m5, m6⟩ := h.1.2 i m hm
  obtain ⟨a1, a2, a3, a4⟩ := h.2.1.2 i m hm
  have hj := (List.getElem?_eq_some_iff.mp hk).1
  rw [f_X2_keyAt, if_neg (nI_pos (by omega)), a3, if_neg (nI_ge hj (by omega)), if_pos (nI_lt (by omega) (by omega)), if_pos ((inb_i (by omega)).mpr (by omega)), n_cl (by omega), a4 j k hk]
theorem macroOf_ok (N : Nat) {S : St} {c : List Mac} (h : KC S c) {i : Nat} (hi : i < c.length) : f_X0_macroOf N S (nI i) = some (some i, S) := by
  have := h.1.1
  rw [f_X0_macroOf, h.2.1.1]
  simp (disch := omega) only [bnd_e, cal_s, opt_0, opt_1, n_lt, n_le, n_eq, n_cl, inb_i, z_lt, z_le, z_eq, z_gt, z_ge, m_1, n_sub, n_add, n_mul, sh_l, sh_r, if_pos, if_neg, if_true, if_false, Nat.reduceAdd, Nat.reduceSub, Nat.reduceMul, Nat.reduceDiv, Nat.reduceMod, Nat.reducePow]
theorem macroOf_no (N : Nat) {S : St} {c : List Mac} (h : KC S c) (x : Int32) (hx : x < 0 ∨ nI c.length ≤ x) : f_X0_macroOf N S x = some (none, S) := by
  rw [f_X0_macroOf, h.2.1.1]
  by_cases c1 : x < 0
  · rw [if_pos c1]
  · rw [if_neg c1, if_pos (hx.resolve_left c1)]
