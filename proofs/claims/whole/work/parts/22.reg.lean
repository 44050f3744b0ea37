/-! THE REFERENCE'S LINE THAT IS WORKED ON -/
def Reg (S : St) (l : Ln) : Prop := okL l ∧ S 32 20 = nI l.1 ∧ S 32 21 = nI l.2.1 ∧ ∀ p, p < l.1 → S 45 p = nI (dg l p)
/-- only the working registers changed -/
def frW (S S' : St) : Prop := (∀ k, k ≠ 32 → k ≠ 45 → S' k = S k) ∧ ∀ j, j ≠ 20 → j ≠ 21 → j ≠ 22 → S' 32 j = S 32 j
theorem frW.rf (S : St) : frW S S := ⟨fun _ _ _ => rfl, fun _ _ _ _ => rfl⟩
theorem frW.tr {S T U : St} (h : frW S T) (g : frW T U) : frW S U := ⟨fun k a b => (g.1 k a b).trans (h.1 k a b), fun j a b c => (g.2 j a b c).trans (h.2 j a b c)⟩
theorem frW.st45 (S : St) (p : Nat) (v : Int32) : frW S (st S 45 p v) := ⟨fun k _ b => st_ne b, fun j _ _ _ => by rw [st_ne (by decide)]⟩
theorem frW.st20 (S : St) (v : Int32) : frW S (st S 32 20 v) := ⟨fun k a _ => st_ne a, fun j a _ _ => st_n a⟩
theorem frW.st21 (S : St) (v : Int32) : frW S (st S 32 21 v) := ⟨fun k a _ => st_ne a, fun j _ a _ => st_n a⟩
theorem frW.st22 (S : St) (v : Int32) : frW S (st S 32 22 v) := ⟨fun k a _ => st_ne a, fun j _ _ a => st_n a⟩
theorem below_ok {N : Nat} (hN : 7 ≤ N) (S : St) {n : Nat} (hn : n ≤ 5) : f_X7_linesBelow N S (nI n) = some (nI (Fn n), S) := by
  obtain ⟨M, rfl⟩ : ∃ M, N = M + 7 := ⟨N - 7, by omega⟩
  rcases n6 hn with rfl | rfl | rfl | rfl | rfl | rfl
  all_goals
    rw [f_X7_linesBelow, bnd_e, bnd_e, bnd_e]
    repeat (rw [f_X7_linesBelow_6]; simp (disch := omega) only [bnd_e, cal_s, opt_0, opt_1, n_lt, n_le, n_eq, n_cl, inb_i, z_lt, z_le, z_eq, z_gt, z_ge, m_1, n_sub, n_add, n_mul, sh_l, sh_r, if_pos, if_neg, if_true, if_false, Nat.reduceAdd, Nat.reduceSub, Nat.reduceMul, Nat.reduceDiv, Nat.reduceMod, Nat.reducePow])
    rfl
theorem neg1 (p : Nat) : (nI (p + 1) - nI 1) = nI p := by rw [n_sub (by omega)]; rfl
theorem neg1_lt : (nI 0 - nI 1 : Int32) < 0 := by decide
theorem neg1_s (p : Nat) : nI p + (-1 : Int32) = nI p - nI 1 := by
  rw [Int32.sub_eq_add_neg]
  rfl
theorem fill_ok (N : Nat) : ∀ (p : Nat) (S : St) (r f : Nat), p ≤ 5 → p < f → r < 2147483648 → ∃ S', f_X7_workOn_77 N f S (nI r) (nI p - nI 1) = some ((), S') ∧ (∀ q, q < p → S' 45 q = nI (r / 4 ^ (p - 1 - q) % 4)) ∧ (∀ q, p ≤ q → S' 45 q = S 45 q) ∧ ∀ k, k ≠ 45 → S' k = S k := by
  intro p
  induction p with
  | zero =>
    intro S r f _ hf _
    obtain ⟨g, rfl⟩ : ∃ g, f = g + 1 := ⟨f - 1, by omega⟩
    rw [f_X7_workOn_77, if_pos neg1_lt]
    exact ⟨S, rfl, fun q h => absurd h (by omega), fun _ _ => rfl, fun _ _ => rfl⟩
  | succ p ih =>
    intro S r f hp hf hr
    obtain ⟨g, rfl⟩ : ∃ g, f = g + 1 := ⟨f - 1, by omega⟩
    rw [f_X7_workOn_77, neg1]
    rw [if_neg (nI_pos (by omega)), if_pos ((inb_i (by omega)).mpr (by omega)), bnd_e, bnd_e, bnd_e, n_cl (by omega), pk_rem (by omega) (by omega) (by omega), pk_div (by omega) (by omega) (by omega), neg1_s]
    obtain ⟨S', h1, h2, h3, h4⟩ := ih (st S 45 p (nI (r % 4))) (r / 4) g (by omega) (by omega) (by omega)
    refine ⟨S', h1, ?_, ?_, ?_⟩
    · intro q hq
      by_cases c : q = p
      · subst c
        rw [h3 q (by omega), st_s, show q + 1 - 1 - q = 0 by omega, Nat.pow_zero, Nat.div_one]
      · rw [h2 q (by omega), Nat.div_div_eq_div_mul, show p + 1 - 1 - q = p - 1 - q + 1 by omega, Nat.pow_succ, Nat.mul_comm 4]
    · intro q hq
      rw [h3 q (by omega), st_n (by omega)]
    · intro k hk
      rw [h4 k hk, st_ne hk]
theorem many_loop {N : Nat} (hN : 7 ≤ N) {n c : Nat} (hn : n ≤ 5) (hc : c < 7737) (hlo : Fn n ≤ c) (hhi : n = 5 ∨ c < Fn (n + 1)) : ∀ (j i f : Nat) (S : St), i + j = n → j < f → S 32 20 = nI i → ∃ S', f_X7_workOn_5 N f S (nI c) = f_X7_workOn_39 N S' (nI c) ∧ S' 32 20 = nI n ∧ (∀ k, k ≠ 32 → S' k = S k) ∧ ∀ j, j ≠ 20 → S' 32 j = S 32 j := by
  have hm0 : ∀ b, b < 6 → ∀ a, a < b + 1 → Fn a ≤ Fn b := by decide +kernel
  have hm : ∀ a b, a ≤ b → b ≤ 5 → Fn a ≤ Fn b := fun a b h1 h2 => hm0 b (by omega) a (by omega)
  have hF : ∀ a, Fn a ≤ 1593 := fun a => by unfold Fn; repeat (first | omega | split)
  intro j
  induction j with
  | zero =>
    intro i f S hi hf hS
    obtain ⟨g, rfl⟩ : ∃ g, f = g + 1 := ⟨f - 1, by omega⟩
    have hi : i = n := by omega
    subst hi
    rw [f_X7_workOn_5, hS]
    by_cases c5 : i = 5
    · rw [if_pos (nI_le (by omega) (by omega))]
      exact ⟨S, rfl, hS, fun _ _ => rfl, fun _ _ => rfl⟩
    · have := hF (i + 1)
      rw [if_neg (nI_ge (by omega) (by omega)), n_add, below_ok hN S (by omega), cal_s, if_pos (nI_lt (by omega) (by omega))]
      exact ⟨S, rfl, hS, fun _ _ => rfl, fun _ _ => rfl⟩
  | succ j ih =>
    intro i f S hi hf hS
    obtain ⟨g, rfl⟩ : ∃ g, f = g + 1 := ⟨f - 1, by omega⟩
    have := hF (i + 1)
    have h6 := hm (i + 1) n (by omega) hn
    rw [f_X7_workOn_5, hS, if_neg (nI_ge (by omega) (by omega)), n_add, below_ok hN S (by omega), cal_s, if_neg (nI_nlt (by omega) (by omega)), bnd_e, hS, n_add]
    obtain ⟨S', h1, h2, h3, h4⟩ := ih (i + 1) g (st S 32 20 (nI (i + 1))) (by omega) (by omega) st_s
    exact ⟨S', h1, h2, fun k hk => (h3 k hk).trans (st_ne hk), fun j hj => (h4 j hj).trans (st_n hj)⟩
theorem workOn_ok {N : Nat} (hN : 7 ≤ N) (S : St) {l : Ln} (h : okL l) : ∃ S', f_X7_workOn N S (nI (rn l)) = some ((), S') ∧ Reg S' l ∧ frW S S' ∧ S' 32 22 = S 32 22 := by
  have hr := rn_lt h
  have hv := v_lt h
  obtain ⟨h1, h2, h3⟩ := id h
  have hF : Fn l.1 ≤ rn l := by unfold rn; omega
  have hhi : l.1 = 5 ∨ rn l < Fn (l.1 + 1) := by
    obtain ⟨n, k, v⟩ := l
    dsimp only at h1 h2 h3
    unfold rn
    dsimp only
    rcases n6 h1 with rfl | rfl | rfl | rfl | rfl | rfl <;> simp only [Fn, Nat.reducePow, Nat.reduceEqDiff, if_true, if_false, Nat.reduceAdd] at h3 ⊢ <;> first | omega | simp
  rw [f_X7_workOn, bnd_e]
  obtain ⟨S1, a1, a2, a3, a4⟩ := many_loop hN h1 hr hF hhi l.1 0 N (st S 32 20 (nI 0)) (by omega) (by omega) st_s
  rw [a1, f_X7_workOn_39, a2, below_ok hN S1 h1, cal_s, bnd_e, a2, n_add, n_sub hF]
  have e1 : rn l - Fn l.1 = l.2.2 * (l.1 + 1) + l.2.1 := by unfold rn; omega
  have e2 : (l.2.2 * (l.1 + 1) + l.2.1) % (l.1 + 1) = l.2.1 := by rw [Nat.mul_comm, Nat.mul_add_mod, Nat.mod_eq_of_lt (by omega)]
  have e3 : (l.2.2 * (l.1 + 1) + l.2.1) / (l.1 + 1) = l.2.2 := by rw [Nat.mul_comm, Nat.mul_add_div (by omega), Nat.div_eq_of_lt (by omega), Nat.add_zero]
  have e4 : ¬ nI (l.1 + 1) = 0 := by rw [z_eq (by omega)]; omega
  rw [if_pos e4, bnd_e, pk_rem (by omega) (by omega) (by omega), e1, e2, st_n (by decide), a2, n_add, if_pos e4, bnd_e, pk_div (by omega) (by omega) (by omega), e3, bnd_e]
  obtain ⟨S2, b1, b2, b3, b4⟩ := fill_ok N l.1 (st S1 32 21 (nI l.2.1)) l.2.2 N h1 (by omega) (by omega)
  refine ⟨S2, b1, ⟨h, ?_, ?_, b2⟩, ⟨?_, ?_⟩, ?_⟩
  · rw [b4 32 (by decide), st_n (by decide), a2]
  · rw [b4 32 (by decide), st_s]
  · intro k k1 k2
    rw [b4 k k2, st_ne k1, a3 k k1, st_ne k1]
  · intro j j1 j2 j3
    rw [b4 32 (by decide), st_n j2, a4 j j1, st_n j1]
  · rw [b4 32 (by decide), st_n (by decide), a4 22 (by decide), st_n (by decide)]
theorem number_loop {N : Nat} (hN : 7 ≤ N) (S : St) {l : Ln} (h : Reg S l) : ∀ (j p f : Nat), p + j = l.1 → j < f → f_X7_lineNumber_4 N f S (nI (l.2.2 / 4 ^ (l.1 - p))) (nI p) = some (nI (rn l), S) := by
  obtain ⟨ho, hm, hc, hd⟩ := h
  have hv := v_lt ho
  obtain ⟨h1, h2, h3⟩ := id ho
  intro j
  induction j with
  | zero =>
    intro p f hp hf
    obtain ⟨g, rfl⟩ : ∃ g, f = g + 1 := ⟨f - 1, by omega⟩
    rw [f_X7_lineNumber_4, hm, if_pos (nI_le (by omega) (by omega)), below_ok hN S h1, cal_s, hm, hc, show l.1 - p = 0 by omega, Nat.pow_zero, Nat.div_one, n_add, n_mul, n_add, n_add]
    rfl
  | succ j ih =>
    intro p f hp hf
    obtain ⟨g, rfl⟩ : ∃ g, f = g + 1 := ⟨f - 1, by omega⟩
    rw [f_X7_lineNumber_4, hm, if_neg (nI_ge (by omega) (by omega)), if_pos ((inb_i (by omega)).mpr (by omega)), bnd_e, n_cl (by omega), hd p (by omega), n_mul, n_add, bnd_e, n_add]
    have := ih (p + 1) g (by omega) (by omega)
    rw [← this]
    congr 2
    unfold dg
    rw [show l.1 - p = l.1 - 1 - p + 1 by omega, Nat.pow_succ, ← Nat.div_div_eq_div_mul, show l.1 - (p + 1) = l.1 - 1 - p by omega]
    omega
theorem number_ok {N : Nat} (hN : 7 ≤ N) (S : St) {l : Ln} (h : Reg S l) : f_X7_lineNumber N S = some (nI (rn l), S) := by
  have h3 := h.1.2.2
  have h1 := h.1.1
  rw [f_X7_lineNumber, bnd_e, bnd_e]
  have := number_loop hN S h l.1 0 N (by omega) (by omega)
  rw [Nat.sub_zero, Nat.div_eq_of_lt h3] at this
  exact this
