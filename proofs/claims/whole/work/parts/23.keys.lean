/-! THE REFERENCE'S KEYS -/
theorem hi_d {X B R : Nat} (h : R < B) : (X * B + R) / B = X := by
  rw [Nat.add_comm, Nat.add_mul_div_right R X (by omega), Nat.div_eq_of_lt h, Nat.zero_add]
theorem lo_d (X R e C : Nat) : (X * (4 ^ e * (4 * C)) + R) / 4 ^ e % 4 = R / 4 ^ e % 4 := by
  have h : X * (4 ^ e * (4 * C)) + R = R + 4 * (X * C) * 4 ^ e := by
    rw [Nat.add_comm, show X * (4 ^ e * (4 * C)) = 4 * (X * C) * 4 ^ e by
      rw [Nat.mul_comm (4 ^ e), ← Nat.mul_assoc, Nat.mul_left_comm, ← Nat.mul_assoc]]
  rw [h, Nat.add_mul_div_right _ _ (p4_pos e), Nat.add_mul_mod_self_left]
theorem pw_lo {b e : Nat} (h : e < b) : 4 ^ b = 4 ^ e * (4 * 4 ^ (b - e - 1)) := by
  rw [← Nat.mul_assoc, ← Nat.pow_succ, ← Nat.pow_add]
  congr 1
  omega
theorem dg_type {n k v key q : Nat} (hk : k ≤ n) (hy : key < 4) (hq : q ≤ n) : dg (n + 1, k + 1, (v / 4 ^ (n - k) * 4 + key) * 4 ^ (n - k) + v % 4 ^ (n - k)) q = if q < k then dg (n, k, v) q else if q = k then key else dg (n, k, v) (q - 1) := by
  unfold dg
  dsimp only
  have hR : v % 4 ^ (n - k) < 4 ^ (n - k) := Nat.mod_lt _ (p4_pos _)
  have hv : v = v / 4 ^ (n - k) * 4 ^ (n - k) + v % 4 ^ (n - k) := (Nat.div_add_mod' v _).symm
  by_cases c1 : q < k
  · rw [if_pos c1, show n + 1 - 1 - q = n - k + (1 + (k - 1 - q)) by omega, show n - 1 - q = n - k + (k - 1 - q) by omega, Nat.pow_add, Nat.pow_add, Nat.pow_add, ← Nat.div_div_eq_div_mul, ← Nat.div_div_eq_div_mul, ← Nat.div_div_eq_div_mul, hi_d hR, Nat.pow_one, show (v / 4 ^ (n - k) * 4 + key) / 4 = v / 4 ^ (n - k) by omega]
  · rw [if_neg c1]
    by_cases c2 : q = k
    · rw [if_pos c2, c2, show n + 1 - 1 - k = n - k by omega, hi_d hR]; omega
    · rw [if_neg c2, show n + 1 - 1 - q = n - q by omega, show n - 1 - (q - 1) = n - q by omega]
      have hp := pw_lo (show n - q < n - k by omega)
      conv => rhs; rw [hv, hp, lo_d]
      rw [← hp]
      conv => lhs; rw [show (v / 4 ^ (n - k) * 4 + key) * 4 ^ (n - k) = (v / 4 ^ (n - k) * 4 + key) * (4 ^ (n - q) * (4 * 4 ^ (n - k - (n - q) - 1))) by rw [← hp], lo_d]
theorem dg_take {n k v q : Nat} (hk : k ≤ n) (hk0 : 0 < k) (hq : q < n - 1) : dg (n - 1, k - 1, v / 4 ^ (n - k) / 4 * 4 ^ (n - k) + v % 4 ^ (n - k)) q = if q < k - 1 then dg (n, k, v) q else dg (n, k, v) (q + 1) := by
  unfold dg
  dsimp only
  have hR : v % 4 ^ (n - k) < 4 ^ (n - k) := Nat.mod_lt _ (p4_pos _)
  have hv : v = v / 4 ^ (n - k) * 4 ^ (n - k) + v % 4 ^ (n - k) := (Nat.div_add_mod' v _).symm
  by_cases c1 : q < k - 1
  · rw [if_pos c1, show n - 1 - 1 - q = n - k + (k - 2 - q) by omega, show n - 1 - q = n - k + (1 + (k - 2 - q)) by omega, Nat.pow_add, Nat.pow_add, Nat.pow_add, ← Nat.div_div_eq_div_mul, ← Nat.div_div_eq_div_mul, ← Nat.div_div_eq_div_mul, hi_d hR, Nat.pow_one]
  · rw [if_neg c1, show n - 1 - 1 - q = n - 2 - q by omega, show n - 1 - (q + 1) = n - 2 - q by omega]
    have hp := pw_lo (show n - 2 - q < n - k by omega)
    conv => rhs; rw [hv, hp, lo_d]
    rw [← hp]
    conv => lhs; rw [show v / 4 ^ (n - k) / 4 * 4 ^ (n - k) = v / 4 ^ (n - k) / 4 * (4 ^ (n - 2 - q) * (4 * 4 ^ (n - k - (n - 2 - q) - 1))) by rw [← hp], lo_d]
theorem type_loop (N : Nat) {n k x : Nat} (hn : n ≤ 4) (hk : k ≤ n) : ∀ (j p f : Nat) (S : St), p = k + j → p ≤ n → j < f → S 32 20 = nI n → S 32 21 = nI k → ∃ S', f_X7_types_15 N f S (nI x) (nI p) = some (nI 1, S') ∧ S' 32 20 = nI (n + 1) ∧ S' 32 21 = nI (k + 1) ∧ (∀ q, S' 45 q = if q < k then S 45 q else if q = k then nI x else if q ≤ p then S 45 (q - 1) else S 45 q) ∧ frW S S' ∧ S' 32 22 = S 32 22 := by
  intro j
  induction j with
  | zero =>
    intro p f S hp hpn hf h20 h21
    obtain ⟨g, rfl⟩ : ∃ g, f = g + 1 := ⟨f - 1, by omega⟩
    rw [f_X7_types_15, h21, if_pos (nI_le (by omega) (by omega)), if_pos ((inb_i (by omega)).mpr (by omega)), bnd_e, n_cl (by omega), bnd_e, bnd_e]
    refine ⟨_, rfl, ?_, ?_, ?_, ?_, ?_⟩
    · rw [st_n (by decide), st_s, st_ne (by decide), h20, n_add]
    · rw [st_s, st_n (by decide), st_ne (by decide), h21, n_add]
    · intro q
      rw [st_ne (by decide), st_ne (by decide)]
      by_cases c1 : q < k
      · rw [if_pos c1, st_n (by omega)]
      · rw [if_neg c1]
        by_cases c2 : q = k
        · rw [if_pos c2, c2, st_s]
        · rw [if_neg c2, if_neg (by omega), st_n c2]
    · exact ((frW.st45 S _ _).tr (frW.st20 _ _)).tr (frW.st21 _ _)
    · rw [st_n (by decide), st_n (by decide), st_ne (by decide)]
  | succ j ih =>
    intro p f S hp hpn hf h20 h21
    obtain ⟨g, rfl⟩ : ∃ g, f = g + 1 := ⟨f - 1, by omega⟩
    rw [f_X7_types_15, h21, if_neg (nI_ge (by omega) (by omega)), n_sub (by omega), if_pos ((inb_i (by omega)).mpr (by omega)), if_pos ((inb_i (by omega)).mpr (by omega)), bnd_e, n_cl (by omega), n_cl (by omega), bnd_e, m_1 (by omega)]
    obtain ⟨S', a1, a2, a3, a4, a5, a6⟩ := ih (p - 1) g (st S 45 p (S 45 (p - 1))) (by omega) (by omega) (by omega) (by rw [st_ne (by decide), h20]) (by rw [st_ne (by decide), h21])
    refine ⟨S', a1, a2, a3, ?_, (frW.st45 S _ _).tr a5, by rw [a6, st_ne (by decide)]⟩
    intro q
    rw [a4 q]
    by_cases c1 : q < k
    · rw [if_pos c1, if_pos c1, st_n (by omega)]
    · rw [if_neg c1, if_neg c1]
      by_cases c2 : q = k
      · rw [if_pos c2, if_pos c2]
      · rw [if_neg c2, if_neg c2]
        by_cases c3 : q ≤ p - 1
        · rw [if_pos c3, if_pos (by omega), st_n (by omega)]
        · rw [if_neg c3]
          by_cases c4 : q = p
          · rw [if_pos (by omega), c4, st_s]
          · rw [if_neg (by omega), st_n c4]
theorem take_loop (N : Nat) {n k : Nat} (hn : n ≤ 5) (hk : k ≤ n) (hk0 : 0 < k) : ∀ (j p f : Nat) (S : St), p + j = n → k ≤ p → j < f → S 32 20 = nI n → S 32 21 = nI k → ∃ S', f_X7_takes_14 N f S (nI p) = some (nI 1, S') ∧ S' 32 20 = nI (n - 1) ∧ S' 32 21 = nI (k - 1) ∧ (∀ q, q < n - 1 → S' 45 q = if q < p - 1 then S 45 q else S 45 (q + 1)) ∧ frW S S' ∧ S' 32 22 = S 32 22 := by
  intro j
  induction j with
  | zero =>
    intro p f S hp hkp hf h20 h21
    obtain ⟨g, rfl⟩ : ∃ g, f = g + 1 := ⟨f - 1, by omega⟩
    rw [f_X7_takes_14, h20, if_pos (nI_le (by omega) (by omega)), bnd_e, bnd_e]
    refine ⟨_, rfl, ?_, ?_, ?_, ?_, ?_⟩
    · rw [st_n (by decide), st_s, n_sub (by omega)]
    · rw [st_s, st_n (by decide), h21, n_sub (by omega)]
    · intro q hq
      rw [st_ne (by decide), st_ne (by decide), if_pos (by omega)]
    · exact (frW.st20 _ _).tr (frW.st21 _ _)
    · rw [st_n (by decide), st_n (by decide)]
  | succ j ih =>
    intro p f S hp hkp hf h20 h21
    obtain ⟨g, rfl⟩ : ∃ g, f = g + 1 := ⟨f - 1, by omega⟩
    rw [f_X7_takes_14, h20, if_neg (nI_ge (by omega) (by omega)), if_pos ((inb_i (by omega)).mpr (by omega)), n_sub (by omega), if_pos ((inb_i (by omega)).mpr (by omega)), bnd_e, n_cl (by omega), n_cl (by omega), bnd_e, n_add]
    obtain ⟨S', a1, a2, a3, a4, a5, a6⟩ := ih (p + 1) g (st S 45 (p - 1) (S 45 p)) (by omega) (by omega) (by omega) (by rw [st_ne (by decide), h20]) (by rw [st_ne (by decide), h21])
    refine ⟨S', a1, a2, a3, ?_, (frW.st45 S _ _).tr a5, by rw [a6, st_ne (by decide)]⟩
    intro q hq
    rw [a4 q hq]
    by_cases c1 : q < p - 1
    · rw [if_pos (by omega), if_pos c1, st_n (by omega)]
    · rw [if_neg c1]
      by_cases c2 : q = p - 1
      · rw [if_pos (by omega), c2, st_s, show p - 1 + 1 = p by omega]
      · rw [if_neg (by omega), st_n (by omega)]
def b01 (b : Bool) : Nat := if b then 1 else 0
/-- does: a key on the line that is worked on -/
theorem does_ok {N : Nat} (hN : 7 ≤ N) (S : St) {l : Ln} (h : Reg S l) {key : Nat} (hk : key < 8) : ∃ S', f_X7_does N S (nI key) = some (nI (b01 (!bmp key l)), S') ∧ Reg S' (act key l) ∧ frW S S' ∧ S' 32 22 = S 32 22 := by
  obtain ⟨ho, h20, h21, hd⟩ := h
  have hv := v_lt ho
  have hact := act_ok ho hk
  obtain ⟨n, k, v⟩ := l
  obtain ⟨h1, h2, h3⟩ := id ho
  dsimp only at h1 h2 h3 hv h20 h21 hd
  rw [f_X7_does]
  unfold act at hact ⊢
  unfold bmp
  dsimp only at hact ⊢
  by_cases c1 : key < 4
  · rw [if_pos c1] at hact
    rw [if_neg (nI_ge (by omega) (by omega)), if_pos c1, if_pos c1, f_X7_types, h20]
    by_cases c2 : n = 5
    · rw [if_pos c2, if_pos (by rw [c2]), cal_s, if_pos (by decide), decide_eq_true c2]
      exact ⟨S, rfl, ⟨ho, h20, h21, hd⟩, frW.rf S, rfl⟩
    · rw [if_neg c2] at hact
      rw [if_neg c2, if_neg (by rw [n_eq (by omega) (by omega)]; exact c2), bnd_e, decide_eq_false c2]
      obtain ⟨S', a1, a2, a3, a4, a5, a6⟩ := type_loop N (x := key) (show n ≤ 4 by omega) h2 (n - k) n N S (by omega) (by omega) (by omega) h20 h21
      rw [a1, cal_s, if_pos (by decide)]
      refine ⟨S', rfl, ⟨hact, a2, a3, ?_⟩, a5, a6⟩
      intro q hq
      dsimp only at hq
      rw [dg_type h2 c1 (by omega), a4 q]
      by_cases d1 : q < k
      · rw [if_pos d1, if_pos d1, hd q (by omega)]
      · rw [if_neg d1, if_neg d1]
        by_cases d2 : q = k
        · rw [if_pos d2, if_pos d2]
        · rw [if_neg d2, if_neg d2, if_pos (by omega), hd (q - 1) (by omega)]
  · rw [if_neg c1] at hact
    rw [if_pos (nI_le (by omega) (by omega)), if_neg c1, if_neg c1]
    by_cases c2 : key = 5
    · subst c2
      rw [if_pos rfl] at hact
      rw [if_neg (by decide), if_pos rfl, if_pos rfl, if_pos rfl, h20, h21]
      by_cases c3 : k = n
      · rw [if_pos (nI_le (by omega) (by omega)), f_X7_does_43, if_pos nI_0, bnd_e, if_pos (by decide), if_pos c3, decide_eq_true c3, h21, n_add]
        exact ⟨_, rfl, ⟨ho, by rw [st_n (by decide), h20], by rw [st_s, Nat.add_zero], fun p hp => by rw [st_ne (by decide)]; exact hd p hp⟩, frW.st21 _ _, st_n (by decide)⟩
      · rw [if_neg c3] at hact
        rw [if_neg (nI_ge (by omega) (by omega)), f_X7_does_43, if_neg (by decide), bnd_e, if_pos (by decide), if_neg c3, decide_eq_false c3, h21, n_add]
        exact ⟨_, rfl, ⟨hact, by rw [st_n (by decide), h20], st_s, fun p hp => by rw [st_ne (by decide)]; exact hd p hp⟩, frW.st21 _ _, st_n (by decide)⟩
    · rw [if_neg c2] at hact
      rw [if_neg c2, if_neg c2]
      by_cases c3 : k = 0
      · rw [if_pos c3, decide_eq_true c3]
        by_cases c5 : key = 6
        · subst c5
          rw [if_pos rfl, f_X7_takes, h21, if_pos (by rw [c3]; rfl), cal_s, if_pos (by decide)]
          exact ⟨S, rfl, ⟨ho, h20, h21, hd⟩, frW.rf S, rfl⟩
        · rw [if_neg (by rw [n_eq (by omega) (by omega)]; exact c5), if_neg (by rw [n_eq (by omega) (by omega)]; exact c2), h21, if_pos (by rw [z_le (by omega)]; exact c3), f_X7_does_76]
          by_cases c7 : key = 7
          · rw [if_pos (by rw [c7]), bnd_e, if_pos (by decide)]
            exact ⟨_, rfl, ⟨ho, by rw [st_n (by decide), h20], by rw [st_s, c3], fun p hp => by rw [st_ne (by decide)]; exact hd p hp⟩, frW.st21 _ _, st_n (by decide)⟩
          · rw [if_neg (by rw [n_eq (by omega) (by omega)]; exact c7), if_pos nI_0, bnd_e, if_pos (by decide)]
            exact ⟨_, rfl, ⟨ho, by rw [st_n (by decide), h20], by rw [st_s, c3], fun p hp => by rw [st_ne (by decide)]; exact hd p hp⟩, frW.st21 _ _, st_n (by decide)⟩
      · rw [if_neg c3] at hact
        rw [if_neg c3, decide_eq_false c3]
        by_cases c5 : key = 6
        · subst c5
          rw [if_neg (by decide), if_pos rfl] at hact
          rw [if_pos rfl, f_X7_takes, h21, if_neg (by rw [z_eq (by omega)]; exact c3), bnd_e, if_neg (by decide), if_pos rfl]
          obtain ⟨S', a1, a2, a3, a4, a5, a6⟩ := take_loop N h1 h2 (by omega) (n - k) k N S (by omega) (by omega) (by omega) h20 h21
          rw [a1, cal_s, if_pos (by decide)]
          refine ⟨S', rfl, ⟨hact, a2, a3, ?_⟩, a5, a6⟩
          intro q hq
          dsimp only at hq
          rw [dg_take h2 (by omega) hq, a4 q hq]
          by_cases d1 : q < k - 1
          · rw [if_pos d1, if_pos d1, hd q (by omega)]
          · rw [if_neg d1, if_neg d1, hd (q + 1) (by omega)]
        · rw [if_neg (by rw [n_eq (by omega) (by omega)]; exact c5), if_neg (by rw [n_eq (by omega) (by omega)]; exact c2), h21, if_neg (by rw [z_le (by omega)]; exact c3), f_X7_does_76]
          by_cases c7 : key = 7
          · rw [if_neg (by omega), if_neg c5] at hact
            rw [if_pos (by rw [c7]), bnd_e, if_pos (by decide), if_neg (by omega), if_neg c5]
            exact ⟨_, rfl, ⟨hact, by rw [st_n (by decide), h20], st_s, fun p hp => by rw [st_ne (by decide)]; exact hd p hp⟩, frW.st21 _ _, st_n (by decide)⟩
          · have c4 : key = 4 := by omega
            rw [if_pos c4] at hact
            rw [if_neg (by rw [n_eq (by omega) (by omega)]; exact c7), if_neg (by decide), bnd_e, if_pos (by decide), if_pos c4, h21, n_sub (by omega)]
            exact ⟨_, rfl, ⟨hact, by rw [st_n (by decide), h20], st_s, fun p hp => by rw [st_ne (by decide)]; exact hd p hp⟩, frW.st21 _ _, st_n (by decide)⟩
/-- presses: with the bumps counted -/
theorem presses_ok {N : Nat} (hN : 7 ≤ N) (S : St) {l : Ln} (h : Reg S l) {key : Nat} (hk : key < 8) : ∃ S', f_X7_presses N S (nI key) = some (nI (b01 (!bmp key l)), S') ∧ Reg S' (act key l) ∧ frW S S' ∧ S' 32 22 = S 32 22 + nI (b01 (bmp key l)) := by
  obtain ⟨S', a1, ⟨b1, b2, b3, b4⟩, a3, a4⟩ := does_ok hN S h hk
  rw [f_X7_presses, a1, cal_s]
  cases bmp key l with
  | true =>
    rw [if_pos (by rfl), bnd_e, if_pos (by decide), a4]
    exact ⟨_, rfl, ⟨b1, by rw [st_n (by decide), b2], by rw [st_n (by decide), b3], fun p hp => by rw [st_ne (by decide)]; exact b4 p hp⟩, a3.tr (frW.st22 _ _), st_s⟩
  | false =>
    rw [if_neg (by decide), bnd_e, if_pos (by decide), a4]
    exact ⟨_, rfl, ⟨b1, by rw [st_n (by decide), b2], by rw [st_n (by decide), b3], fun p hp => by rw [st_ne (by decide)]; exact b4 p hp⟩, a3.tr (frW.st22 _ _), st_s⟩
