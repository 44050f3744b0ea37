/-! LINES: (n, k, v): n letters, the cursor behind k of them, the letters as a number to the base 4 -/
abbrev Ln : Type := Nat × Nat × Nat
def okL (l : Ln) : Prop := l.1 ≤ 5 ∧ l.2.1 ≤ l.1 ∧ l.2.2 < 4 ^ l.1
def Fn (n : Nat) : Nat := if n = 0 then 0 else if n = 1 then 1 else if n = 2 then 9 else if n = 3 then 57 else if n = 4 then 313 else 1593
def cn (l : Ln) : Nat := Fn l.1 + l.2.1 * 4 ^ l.1 + l.2.2
def rn (l : Ln) : Nat := Fn l.1 + l.2.2 * (l.1 + 1) + l.2.1
/-- what a key that is no macro makes of a line -/
def act (key : Nat) (l : Ln) : Ln :=
  if key < 4 then if l.1 = 5 then l else (l.1 + 1, l.2.1 + 1, (l.2.2 / 4 ^ (l.1 - l.2.1) * 4 + key) * 4 ^ (l.1 - l.2.1) + l.2.2 % 4 ^ (l.1 - l.2.1))
  else if key = 5 then if l.2.1 = l.1 then l else (l.1, l.2.1 + 1, l.2.2)
  else if l.2.1 = 0 then l
  else if key = 4 then (l.1, l.2.1 - 1, l.2.2)
  else if key = 6 then (l.1 - 1, l.2.1 - 1, l.2.2 / 4 ^ (l.1 - l.2.1) / 4 * 4 ^ (l.1 - l.2.1) + l.2.2 % 4 ^ (l.1 - l.2.1))
  else (l.1, 0, l.2.2)
/-- whether it bumps -/
def bmp (key : Nat) (l : Ln) : Bool := if key < 4 then decide (l.1 = 5) else if key = 5 then decide (l.2.1 = l.1) else decide (l.2.1 = 0)
theorem frs_n {n : Nat} (h : n ≤ 5) : frs n = nI (Fn n) := by
  rcases (show n = 0 ∨ n = 1 ∨ n = 2 ∨ n = 3 ∨ n = 4 ∨ n = 5 by omega) with rfl | rfl | rfl | rfl | rfl | rfl <;> rfl
theorem p4 : (4 : Nat) ^ 0 = 1 ∧ (4 : Nat) ^ 1 = 4 ∧ (4 : Nat) ^ 2 = 16 ∧ (4 : Nat) ^ 3 = 64 ∧ (4 : Nat) ^ 4 = 256 ∧ (4 : Nat) ^ 5 = 1024 := by decide
theorem n6 {n : Nat} (h : n ≤ 5) : n = 0 ∨ n = 1 ∨ n = 2 ∨ n = 3 ∨ n = 4 ∨ n = 5 := by omega
/-- the six lengths, each with its powers -/
theorem cn_lt {l : Ln} (h : okL l) : cn l < 7737 := by
  obtain ⟨n, k, v⟩ := l
  obtain ⟨h1, h2, h3⟩ := h
  dsimp only at h1 h2 h3
  unfold cn
  dsimp only
  rcases n6 h1 with rfl | rfl | rfl | rfl | rfl | rfl <;> simp only [Fn, Nat.reducePow] at h3 ⊢ <;> simp <;> omega
theorem rn_lt {l : Ln} (h : okL l) : rn l < 7737 := by
  obtain ⟨n, k, v⟩ := l
  obtain ⟨h1, h2, h3⟩ := h
  dsimp only at h1 h2 h3
  unfold rn
  dsimp only
  rcases n6 h1 with rfl | rfl | rfl | rfl | rfl | rfl <;> simp only [Fn, Nat.reducePow] at h3 ⊢ <;> simp <;> omega
theorem v_lt {l : Ln} (h : okL l) : l.2.2 < 1024 := Nat.lt_of_lt_of_le h.2.2 (show 4 ^ l.1 ≤ 4 ^ 5 from Nat.pow_le_pow_right (by decide) h.1)
theorem countOf_at (N : Nat) (S : St) (n c : Nat) (hN : 7 ≤ N) (h1 : (n = 0 ∧ c < 1) ∨ (n = 1 ∧ 1 ≤ c ∧ c < 9) ∨ (n = 2 ∧ 9 ≤ c ∧ c < 57) ∨ (n = 3 ∧ 57 ≤ c ∧ c < 313) ∨ (n = 4 ∧ 313 ≤ c ∧ c < 1593) ∨ (n = 5 ∧ 1593 ≤ c ∧ c < 7737)) : f_X1_countOf N S (nI c) = some (nI n, S) := by
  obtain ⟨M, rfl⟩ : ∃ M, N = M + 7 := ⟨N - 7, by omega⟩
  have hc : c < 7737 := by omega
  rcases h1 with ⟨rfl, h1⟩ | ⟨rfl, h1, h2⟩ | ⟨rfl, h1, h2⟩ | ⟨rfl, h1, h2⟩ | ⟨rfl, h1, h2⟩ | ⟨rfl, h1, h2⟩
  all_goals
    rw [f_X1_countOf, bnd_e]
    repeat (rw [f_X1_countOf_2]; simp (disch := omega) only [bnd_e, cal_s, opt_0, opt_1, n_lt, n_le, n_eq, n_cl, inb_i, z_lt, z_le, z_eq, z_gt, z_ge, m_1, n_sub, n_add, n_mul, sh_l, sh_r, if_pos, if_neg, if_true, if_false, Nat.reduceAdd, Nat.reduceSub, Nat.reduceMul, Nat.reduceDiv, Nat.reduceMod, Nat.reducePow, fr_0, fr_1, fr_2, fr_3, fr_4, fr_5])
theorem countOf_ok {N : Nat} (hN : 7 ≤ N) (S : St) {l : Ln} (h : okL l) : f_X1_countOf N S (nI (cn l)) = some (nI l.1, S) := by
  refine countOf_at N S l.1 (cn l) hN ?_
  obtain ⟨n, k, v⟩ := l
  obtain ⟨h1, h2, h3⟩ := h
  dsimp only at h1 h2 h3
  unfold cn
  dsimp only
  rcases n6 h1 with rfl | rfl | rfl | rfl | rfl | rfl <;> simp only [Fn, Nat.reducePow] at h3 ⊢ <;> simp <;> omega
theorem cur_ok {l : Ln} (h : okL l) : (nI (cn l) - frs (nI l.1).toNatClampNeg) >>> ((nI 2 * nI l.1) &&& (31 : Int32)) = nI l.2.1 ∧ (nI (cn l) - frs (nI l.1).toNatClampNeg) &&& (((nI 1) <<< ((nI 2 * nI l.1) &&& (31 : Int32))) - nI 1) = nI l.2.2 := by
  obtain ⟨n, k, v⟩ := l
  obtain ⟨h1, h2, h3⟩ := h
  dsimp only at h1 h2 h3 ⊢
  unfold cn
  dsimp only
  rw [n_cl (by omega), frs_n h1]
  rcases n6 h1 with rfl | rfl | rfl | rfl | rfl | rfl
  all_goals
    simp only [Fn, Nat.reducePow, Nat.reduceEqDiff, if_true, if_false] at h3 ⊢
    simp (disch := omega) only [bnd_e, cal_s, opt_0, opt_1, n_lt, n_le, n_eq, n_cl, inb_i, z_lt, z_le, z_eq, z_gt, z_ge, m_1, n_sub, n_add, n_mul, sh_l, sh_r, if_pos, if_neg, if_true, if_false, Nat.reduceAdd, Nat.reduceSub, Nat.reduceMul, Nat.reduceDiv, Nat.reduceMod, Nat.reducePow]
    constructor
  · omega
  · rw [and_m 0 (by omega) (by omega) rfl]; exact congrArg nI (by omega)
  · omega
  · rw [and_m 2 (by omega) (by omega) rfl]; exact congrArg nI (by omega)
  · omega
  · rw [and_m 4 (by omega) (by omega) rfl]; exact congrArg nI (by omega)
  · omega
  · rw [and_m 6 (by omega) (by omega) rfl]; exact congrArg nI (by omega)
  · omega
  · rw [and_m 8 (by omega) (by omega) rfl]; exact congrArg nI (by omega)
  · omega
  · rw [and_m 10 (by omega) (by omega) rfl]; exact congrArg nI (by omega)
theorem of_ok (N : Nat) (S : St) {n k v : Nat} (hn : n ≤ 5) (hk : k ≤ 6) (hv : v < 4096) : f_X1_of N S (nI n) (nI k) (nI v) = some (nI (Fn n + k * 4 ^ n + v), S) := by
  rw [f_X1_of, if_neg (nI_pos (by omega)), if_pos (nI_le (by omega) (by omega)), n_cl (by omega), frs_n hn]
  rcases n6 hn with rfl | rfl | rfl | rfl | rfl | rfl
  all_goals
    simp only [Fn, Nat.reducePow, Nat.reduceEqDiff, if_true, if_false]
    simp (disch := omega) only [bnd_e, cal_s, opt_0, opt_1, n_lt, n_le, n_eq, n_cl, inb_i, z_lt, z_le, z_eq, z_gt, z_ge, m_1, n_sub, n_add, n_mul, sh_l, sh_r, if_pos, if_neg, if_true, if_false, Nat.reduceAdd, Nat.reduceSub, Nat.reduceMul, Nat.reduceDiv, Nat.reduceMod, Nat.reducePow]
theorem with_ok (N : Nat) (S : St) {v b key : Nat} (hb : b ≤ 5) (hv : v < 1024) (hk : key < 4) : f_X1_with N S (nI v) (nI b) (nI key) = some (nI ((v / 4 ^ b * 4 + key) * 4 ^ b + v % 4 ^ b), S) := by
  rw [f_X1_with, bnd_e]
  rcases n6 hb with rfl | rfl | rfl | rfl | rfl | rfl
  all_goals
    simp (disch := omega) only [bnd_e, cal_s, opt_0, opt_1, n_lt, n_le, n_eq, n_cl, inb_i, z_lt, z_le, z_eq, z_gt, z_ge, m_1, n_sub, n_add, n_mul, sh_l, sh_r, if_pos, if_neg, if_true, if_false, Nat.reduceAdd, Nat.reduceSub, Nat.reduceMul, Nat.reduceDiv, Nat.reduceMod, Nat.reducePow]
    rw [or_p (a := _) 2 (by omega)]
    simp (disch := omega) only [bnd_e, cal_s, opt_0, opt_1, n_lt, n_le, n_eq, n_cl, inb_i, z_lt, z_le, z_eq, z_gt, z_ge, m_1, n_sub, n_add, n_mul, sh_l, sh_r, if_pos, if_neg, if_true, if_false, Nat.reduceAdd, Nat.reduceSub, Nat.reduceMul, Nat.reduceDiv, Nat.reduceMod, Nat.reducePow]
  · rw [and_m 0 (by omega) (by omega) rfl, or_p (a := _) 0 (by omega)]
  · rw [and_m 2 (by omega) (by omega) rfl]; exact congrArg some (congrArg (fun z => (z, S)) (or_p (a := _) 2 (by omega)))
  · rw [and_m 4 (by omega) (by omega) rfl]; exact congrArg some (congrArg (fun z => (z, S)) (or_p (a := _) 4 (by omega)))
  · rw [and_m 6 (by omega) (by omega) rfl]; exact congrArg some (congrArg (fun z => (z, S)) (or_p (a := _) 6 (by omega)))
  · rw [and_m 8 (by omega) (by omega) rfl]; exact congrArg some (congrArg (fun z => (z, S)) (or_p (a := _) 8 (by omega)))
  · rw [and_m 10 (by omega) (by omega) rfl]; exact congrArg some (congrArg (fun z => (z, S)) (or_p (a := _) 10 (by omega)))
theorem without_ok (N : Nat) (S : St) {v b : Nat} (hb : b ≤ 5) (hv : v < 1024) : f_X1_without N S (nI v) (nI b) = some (nI (v / 4 ^ b / 4 * 4 ^ b + v % 4 ^ b), S) := by
  rw [f_X1_without, bnd_e]
  rcases n6 hb with rfl | rfl | rfl | rfl | rfl | rfl
  all_goals
    simp (disch := omega) only [bnd_e, cal_s, opt_0, opt_1, n_lt, n_le, n_eq, n_cl, inb_i, z_lt, z_le, z_eq, z_gt, z_ge, m_1, n_sub, n_add, n_mul, sh_l, sh_r, if_pos, if_neg, if_true, if_false, Nat.reduceAdd, Nat.reduceSub, Nat.reduceMul, Nat.reduceDiv, Nat.reduceMod, Nat.reducePow]
  · rw [and_m 0 (by omega) (by omega) rfl]; exact congrArg some (congrArg (fun z => (z, S)) (or_p (a := _) 0 (by omega)))
  · rw [and_m 2 (by omega) (by omega) rfl]; exact congrArg some (congrArg (fun z => (z, S)) (or_p (a := _) 2 (by omega)))
  · rw [and_m 4 (by omega) (by omega) rfl]; exact congrArg some (congrArg (fun z => (z, S)) (or_p (a := _) 4 (by omega)))
  · rw [and_m 6 (by omega) (by omega) rfl]; exact congrArg some (congrArg (fun z => (z, S)) (or_p (a := _) 6 (by omega)))
  · rw [and_m 8 (by omega) (by omega) rfl]; exact congrArg some (congrArg (fun z => (z, S)) (or_p (a := _) 8 (by omega)))
  · rw [and_m 10 (by omega) (by omega) rfl]; exact congrArg some (congrArg (fun z => (z, S)) (or_p (a := _) 10 (by omega)))
theorem p4_le {b : Nat} (h : b ≤ 5) : 4 ^ b ≤ 1024 := by
  rcases n6 h with rfl | rfl | rfl | rfl | rfl | rfl <;> decide
theorem p4_pos (b : Nat) : 0 < 4 ^ b := Nat.pow_pos (by decide)
/-- a key's line is a line -/
theorem act_ok {l : Ln} (h : okL l) {key : Nat} (hk : key < 8) : okL (act key l) := by
  obtain ⟨n, k, v⟩ := l
  obtain ⟨h1, h2, h3⟩ := h
  dsimp only at h1 h2 h3
  unfold act
  dsimp only
  by_cases c1 : key < 4
  · rw [if_pos c1]
    by_cases c2 : n = 5
    · rw [if_pos c2]; exact ⟨h1, h2, h3⟩
    · rw [if_neg c2]
      refine ⟨by dsimp only; omega, by dsimp only; omega, ?_⟩
      dsimp only
      have e1 : 4 ^ (n + 1) = 4 ^ k * 4 * 4 ^ (n - k) := by rw [Nat.mul_assoc, Nat.mul_comm 4, ← Nat.mul_assoc, ← Nat.pow_add, Nat.pow_succ, show k + (n - k) = n by omega]
      have e2 : v / 4 ^ (n - k) < 4 ^ k := by
        rw [Nat.div_lt_iff_lt_mul (p4_pos _), ← Nat.pow_add, show k + (n - k) = n by omega]; exact h3
      have e3 : v % 4 ^ (n - k) < 4 ^ (n - k) := Nat.mod_lt _ (p4_pos _)
      rw [e1]
      have e4 : v / 4 ^ (n - k) * 4 + key + 1 ≤ 4 ^ k * 4 := by omega
      have e5 := Nat.mul_le_mul_right (4 ^ (n - k)) e4
      rw [Nat.add_mul] at e5
      omega
  · rw [if_neg c1]
    by_cases c2 : key = 5
    · rw [if_pos c2]
      by_cases c3 : k = n
      · rw [if_pos c3]; exact ⟨h1, h2, h3⟩
      · rw [if_neg c3]; exact ⟨h1, by dsimp only; omega, h3⟩
    · rw [if_neg c2]
      by_cases c3 : k = 0
      · rw [if_pos c3]; exact ⟨h1, h2, h3⟩
      · rw [if_neg c3]
        by_cases c4 : key = 4
        · rw [if_pos c4]; exact ⟨h1, by dsimp only; omega, h3⟩
        · rw [if_neg c4]
          by_cases c5 : key = 6
          · rw [if_pos c5]
            refine ⟨by dsimp only; omega, by dsimp only; omega, ?_⟩
            dsimp only
            have e1 : 4 ^ (n - 1) = 4 ^ (k - 1) * 4 ^ (n - k) := by rw [← Nat.pow_add, show k - 1 + (n - k) = n - 1 by omega]
            have e2 : v / 4 ^ (n - k) / 4 < 4 ^ (k - 1) := by
              rw [Nat.div_div_eq_div_mul, Nat.div_lt_iff_lt_mul (Nat.mul_pos (p4_pos _) (by decide)), ← Nat.pow_succ, ← Nat.pow_add, show k - 1 + (n - k + 1) = n by omega]; exact h3
            have e3 : v % 4 ^ (n - k) < 4 ^ (n - k) := Nat.mod_lt _ (p4_pos _)
            rw [e1]
            have e5 := Nat.mul_le_mul_right (4 ^ (n - k)) (Nat.succ_le_of_lt e2)
            rw [Nat.succ_mul] at e5
            omega
          · rw [if_neg c5]; exact ⟨h1, Nat.zero_le _, h3⟩
/-- Line.after: by the class's numbers -/
theorem after_ok {N : Nat} (hN : 7 ≤ N) (S : St) {l : Ln} (h : okL l) {key : Nat} (hk : key < 8) : f_X1_after N S (nI (cn l)) (nI key) = some (nI (cn (act key l)), S) := by
  have hc := cn_lt h
  have hv := v_lt h
  rw [f_X1_after, countOf_ok hN S h, cal_s, (cur_ok h).1, (cur_ok h).2]
  obtain ⟨n, k, v⟩ := l
  obtain ⟨h1, h2, h3⟩ := h
  dsimp only at h1 h2 h3 hv ⊢
  generalize hcc : cn (n, k, v) = c at hc ⊢
  have hc2 : c = Fn n + k * 4 ^ n + v := hcc.symm
  simp (disch := omega) only [bnd_e, inb_i, n_le, n_eq, z_eq, if_pos]
  by_cases c1 : key < 4
  · rw [if_neg (by omega)]
    by_cases c2 : n = 5
    · rw [if_pos c2, f_X1_after_79, if_neg (by decide)]
      unfold act
      rw [if_pos c1, if_pos c2, hcc]
    · rw [if_neg c2, f_X1_after_79, if_pos nI_0, bnd_e]
      simp (disch := omega) only [bnd_e, cal_s, opt_0, opt_1, n_lt, n_le, n_eq, n_cl, inb_i, z_lt, z_le, z_eq, z_gt, z_ge, m_1, n_sub, n_add, n_mul, sh_l, sh_r, if_pos, if_neg, if_true, if_false, Nat.reduceAdd, Nat.reduceSub, Nat.reduceMul, Nat.reduceDiv, Nat.reduceMod, Nat.reducePow]
      rw [with_ok N S (by omega) hv c1, cal_s, of_ok N S (by omega) (by omega) ?_, cal_s]
      · unfold act
        rw [if_pos c1, if_neg c2]
        rfl
      · have := (act_ok (l := (n, k, v)) ⟨h1, h2, h3⟩ hk).2.2
        unfold act at this
        rw [if_pos c1, if_neg c2] at this
        dsimp only at this
        have h5 : 4 ^ (n + 1) ≤ 1024 := p4_le (by omega)
        omega
  · rw [if_pos (by omega)]
    by_cases c2 : key = 5
    · rw [if_pos c2]
      by_cases c3 : k = n
      · rw [if_pos c3, f_X1_after_79, if_neg (by decide)]
        unfold act
        rw [if_neg c1, if_pos c2, if_pos c3, hcc]
      · rw [if_neg c3, f_X1_after_79, if_pos nI_0, bnd_e]
        simp (disch := omega) only [bnd_e, cal_s, opt_0, opt_1, n_lt, n_le, n_eq, n_cl, inb_i, z_lt, z_le, z_eq, z_gt, z_ge, m_1, n_sub, n_add, n_mul, sh_l, sh_r, if_pos, if_neg, if_true, if_false, Nat.reduceAdd, Nat.reduceSub, Nat.reduceMul, Nat.reduceDiv, Nat.reduceMod, Nat.reducePow]
        rw [of_ok N S (by omega) (by omega) (by omega), cal_s]
        unfold act
        rw [if_neg c1, if_pos c2, if_neg c3]
        rfl
    · rw [if_neg c2]
      by_cases c3 : k = 0
      · rw [if_pos c3, f_X1_after_79, if_neg (by decide)]
        unfold act
        rw [if_neg c1, if_neg c2, if_pos c3, hcc]
      · rw [if_neg c3, f_X1_after_79, if_pos nI_0, bnd_e]
        by_cases c4 : key = 4
        · simp (disch := omega) only [bnd_e, cal_s, opt_0, opt_1, n_lt, n_le, n_eq, n_cl, inb_i, z_lt, z_le, z_eq, z_gt, z_ge, m_1, n_sub, n_add, n_mul, sh_l, sh_r, if_pos, if_neg, if_true, if_false, Nat.reduceAdd, Nat.reduceSub, Nat.reduceMul, Nat.reduceDiv, Nat.reduceMod, Nat.reducePow]
          rw [of_ok N S (by omega) (by omega) (by omega), cal_s]
          unfold act
          rw [if_neg c1, if_neg c2, if_neg c3, if_pos c4]
          rfl
        · by_cases c5 : key = 6
          · simp (disch := omega) only [bnd_e, cal_s, opt_0, opt_1, n_lt, n_le, n_eq, n_cl, inb_i, z_lt, z_le, z_eq, z_gt, z_ge, m_1, n_sub, n_add, n_mul, sh_l, sh_r, if_pos, if_neg, if_true, if_false, Nat.reduceAdd, Nat.reduceSub, Nat.reduceMul, Nat.reduceDiv, Nat.reduceMod, Nat.reducePow]
            rw [without_ok N S (by omega) hv, cal_s, of_ok N S (by omega) (by omega) ?_, cal_s]
            · unfold act
              rw [if_neg c1, if_neg c2, if_neg c3, if_neg c4, if_pos c5]
              rfl
            · have := (act_ok (l := (n, k, v)) ⟨h1, h2, h3⟩ hk).2.2
              unfold act at this
              rw [if_neg c1, if_neg c2, if_neg c3, if_neg c4, if_pos c5] at this
              dsimp only at this
              have h5 : 4 ^ (n - 1) ≤ 1024 := p4_le (by omega)
              omega
          · simp (disch := omega) only [bnd_e, cal_s, opt_0, opt_1, n_lt, n_le, n_eq, n_cl, inb_i, z_lt, z_le, z_eq, z_gt, z_ge, m_1, n_sub, n_add, n_mul, sh_l, sh_r, if_pos, if_neg, if_true, if_false, Nat.reduceAdd, Nat.reduceSub, Nat.reduceMul, Nat.reduceDiv, Nat.reduceMod, Nat.reducePow]
            rw [show (nI 0 : Int32) = nI 0 from rfl, of_ok N S (by omega) (by omega) (by omega), cal_s]
            unfold act
            rw [if_neg c1, if_neg c2, if_neg c3, if_neg c4, if_neg c5]
            rfl
/-- a number tells its line -/
theorem cn_inj {l m : Ln} (h : okL l) (g : okL m) (e : cn l = cn m) : l = m := by
  have a1 := countOf_ok (N := 7) (by omega) (fun _ _ => 0) h
  have a2 := countOf_ok (N := 7) (by omega) (fun _ _ => 0) g
  rw [e, a2] at a1
  have a3 : nI m.1 = nI l.1 := congrArg Prod.fst (Option.some.inj a1)
  rw [n_eq (by have := g.1; omega) (by have := h.1; omega)] at a3
  have b1 := cur_ok h
  have b2 := cur_ok g
  rw [e, ← a3] at b1
  have c1 : nI m.2.1 = nI l.2.1 := b2.1.symm.trans b1.1
  have c2 : nI m.2.2 = nI l.2.2 := b2.2.symm.trans b1.2
  have := v_lt h
  have := v_lt g
  have := h.1; have := h.2.1; have := g.1; have := g.2.1
  rw [n_eq (by omega) (by omega)] at c1
  rw [n_eq (by omega) (by omega)] at c2
  obtain ⟨x, y, z⟩ := l
  obtain ⟨x', y', z'⟩ := m
  dsimp only at a3 c1 c2
  rw [a3, c1, c2]
theorem lnq {n k v k' v' : Nat} (h1 : k = k') (h2 : v = v') : ((n, k, v) : Ln) = (n, k', v') := by rw [h1, h2]
theorem rn_inj {l m : Ln} (h : okL l) (g : okL m) (e : rn l = rn m) : l = m := by
  obtain ⟨n, k, v⟩ := l
  obtain ⟨n', k', v'⟩ := m
  obtain ⟨h1, h2, h3⟩ := h
  obtain ⟨g1, g2, g3⟩ := g
  dsimp only at h1 h2 h3 g1 g2 g3
  unfold rn at e
  dsimp only at e
  rcases n6 h1 with rfl | rfl | rfl | rfl | rfl | rfl <;> rcases n6 g1 with rfl | rfl | rfl | rfl | rfl | rfl <;> simp only [Fn, Nat.reducePow, Nat.reduceEqDiff, if_true, if_false, Nat.reduceAdd] at h3 g3 e <;> first | omega | exact lnq (by omega) (by omega)
/-- a key bumps just when the line stays -/
theorem bmp_act {l : Ln} (h : okL l) {key : Nat} (hk : key < 8) : (bmp key l = true ↔ act key l = l) := by
  obtain ⟨n, k, v⟩ := l
  obtain ⟨h1, h2, h3⟩ := h
  dsimp only at h1 h2 h3
  unfold bmp act
  dsimp only
  by_cases c1 : key < 4
  · rw [if_pos c1, if_pos c1, decide_eq_true_iff]
    by_cases c2 : n = 5
    · rw [if_pos c2]; exact ⟨fun _ => rfl, fun _ => c2⟩
    · rw [if_neg c2]; exact ⟨fun z => absurd z c2, fun z => by have := congrArg Prod.fst z; dsimp only at this; omega⟩
  · rw [if_neg c1, if_neg c1]
    by_cases c2 : key = 5
    · rw [if_pos c2, if_pos c2, decide_eq_true_iff]
      by_cases c3 : k = n
      · rw [if_pos c3]; exact ⟨fun _ => rfl, fun _ => c3⟩
      · rw [if_neg c3]; exact ⟨fun z => absurd z c3, fun z => by have := congrArg (fun p => p.2.1) z; dsimp only at this; omega⟩
    · rw [if_neg c2, if_neg c2, decide_eq_true_iff]
      by_cases c3 : k = 0
      · rw [if_pos c3]; exact ⟨fun _ => rfl, fun _ => c3⟩
      · rw [if_neg c3]
        refine ⟨fun z => absurd z c3, fun z => ?_⟩
        by_cases c4 : key = 4
        · rw [if_pos c4] at z; have := congrArg (fun p => p.2.1) z; dsimp only at this; omega
        · rw [if_neg c4] at z
          by_cases c5 : key = 6
          · rw [if_pos c5] at z; have := congrArg Prod.fst z; dsimp only at this; omega
          · rw [if_neg c5] at z; have := congrArg (fun p => p.2.1) z; dsimp only at this; omega
/-- the letter at a place -/
def dg (l : Ln) (p : Nat) : Nat := l.2.2 / 4 ^ (l.1 - 1 - p) % 4
theorem isLine_ok (N : Nat) (S : St) {x : Nat} (h : x < 7737) : f_X1_isLine N S (nI x) = some (nI 1, S) := by
  rw [f_X1_isLine, if_neg (nI_pos (by omega)), if_neg (nI_ge h (by omega))]
theorem cursorOf_ok {N : Nat} (hN : 7 ≤ N) (S : St) {l : Ln} (h : okL l) : f_X1_cursorOf N S (nI (cn l)) = some (nI l.2.1, S) := by
  have := h.1
  rw [f_X1_cursorOf, countOf_ok hN S h, cal_s, (cur_ok h).1, if_pos ((inb_i (by omega)).mpr (by omega))]
theorem letterAt_ok {N : Nat} (hN : 7 ≤ N) (S : St) {l : Ln} (h : okL l) {p : Nat} (hp : p < l.1) : f_X1_letterAt N S (nI (cn l)) (nI p) = some (nI (dg l p), S) := by
  have h1 := h.1
  have hc := cn_lt h
  have he : cn l - Fn l.1 = l.2.2 + 4 ^ (l.1 - 1 - p) * (4 * (4 ^ p * l.2.1)) := by
    have e1 : 4 ^ l.1 = 4 ^ (l.1 - 1 - p) * (4 * 4 ^ p) := by
      rw [← Nat.pow_succ', ← Nat.pow_add, show l.1 - 1 - p + (p + 1) = l.1 by omega]
    unfold cn
    rw [e1, Nat.mul_comm l.2.1, Nat.mul_assoc, Nat.mul_assoc]
    generalize 4 ^ (l.1 - 1 - p) * (4 * (4 ^ p * l.2.1)) = w
    omega
  have hle : Fn l.1 ≤ cn l := by unfold cn; omega
  rw [f_X1_letterAt, countOf_ok hN S h, cal_s, if_pos ((inb_i (by omega)).mpr (by omega)), n_cl (by omega), frs_n h1, n_sub hle, n_sub (by omega), n_sub (by omega), n_mul, sh_r (by omega) (by omega), and_m 2 ?_ (by omega) rfl]
  · show some (nI ((cn l - Fn l.1) / 2 ^ (2 * (l.1 - 1 - p)) % 4), S) = _
    rw [Nat.pow_mul, show (2 ^ 2 : Nat) = 4 from rfl, he, Nat.add_mul_div_left _ _ (Nat.pow_pos (by decide)), Nat.add_mul_mod_self_left]
    rfl
  · have := Nat.div_le_self (cn l - Fn l.1) (2 ^ (2 * (l.1 - 1 - p)))
    omega
theorem dg_lt (l : Ln) (p : Nat) : dg l p < 4 := Nat.mod_lt _ (by decide)
/-- the letters, each one more, as digits -/
def dgs (l : Ln) : Nat → Nat
  | 0 => 0
  | p + 1 => dgs l p * 10 + dg l p + 1
theorem dgs_lt (l : Ln) : ∀ p, dgs l p < 10 ^ p
  | 0 => by show 0 < 10 ^ 0; decide
  | p + 1 => by
    have := dgs_lt l p
    have := dg_lt l p
    show dgs l p * 10 + dg l p + 1 < 10 ^ (p + 1)
    rw [Nat.pow_succ]
    omega
theorem digits_loop {N : Nat} (hN : 7 ≤ N) (S : St) {l : Ln} (h : okL l) : ∀ (j f p : Nat), p + j = l.1 → j < f → f_X1_digitsOf_9 N f S (nI (cn l)) (nI l.1) (nI (dgs l p)) (nI p) = some (nI (dgs l l.1), S) := by
  have h1 := h.1
  intro j
  induction j with
  | zero =>
    intro f p hp hf
    obtain ⟨g, rfl⟩ : ∃ g, f = g + 1 := ⟨f - 1, by omega⟩
    rw [f_X1_digitsOf_9]
    simp (disch := omega) only [n_le, if_pos]
    rw [show p = l.1 by omega]
  | succ j ih =>
    intro f p hp hf
    obtain ⟨g, rfl⟩ : ∃ g, f = g + 1 := ⟨f - 1, by omega⟩
    rw [f_X1_digitsOf_9]
    simp (disch := omega) only [n_le, if_neg]
    rw [letterAt_ok hN S h (by omega), cal_s, bnd_e, bnd_e, n_mul, n_add, n_add, n_add]
    exact ih g (p + 1) (by omega) (by omega)
theorem digitsOf_ok {N : Nat} (hN : 7 ≤ N) (S : St) {l : Ln} (h : okL l) : f_X1_digitsOf N S (nI (cn l)) = some (nI (dgs l l.1), S) := by
  have h1 := h.1
  rw [f_X1_digitsOf, countOf_ok hN S h, cal_s, bnd_e, bnd_e]
  exact digits_loop hN S h l.1 N 0 (by omega) (by omega)
