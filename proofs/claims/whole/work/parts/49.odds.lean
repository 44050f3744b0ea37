/-! odds -/
def zl (l : Ln) : Nat := if l.1 = 0 then 1 else 0
def sm (f : Nat → Nat) : Nat → Nat
  | 0 => 0
  | n + 1 => sm f n + f n
/-- rows of so many keys that leave nothing -/
def Rw : Nat → Ln → Nat
  | 0, l => zl l
  | n + 1, l => sm (fun k => Rw n (act k l)) 8
/-- the line behind a row, its keys the digits of a number -/
def endl : Nat → Nat → Ln → Ln
  | 0, _, l => l
  | n + 1, x, l => endl n (x / 8) (act (x % 8) l)
theorem sm_le {f : Nat → Nat} {b : Nat} (h : ∀ k, f k ≤ b) : ∀ n, sm f n ≤ n * b
  | 0 => Nat.zero_le _
  | n + 1 => by
    have h1 := sm_le h n
    have h2 := h n
    show sm f n + f n ≤ (n + 1) * b
    rw [Nat.succ_mul]
    omega
theorem sm_c {f g : Nat → Nat} : ∀ {n : Nat}, (∀ k, k < n → f k = g k) → sm f n = sm g n
  | 0, _ => rfl
  | n + 1, h => by
    show sm f n + f n = sm g n + g n
    rw [sm_c (fun k hk => h k (by omega)), h n (by omega)]
theorem sm_8 (g : Nat → Nat → Nat) : ∀ m, sm (fun x => g (x % 8) (x / 8)) (8 * m) = sm (fun k => sm (g k) m) 8 := by
  intro m
  induction m with
  | zero => rfl
  | succ m ih =>
    rw [show 8 * (m + 1) = 8 * m + 1 + 1 + 1 + 1 + 1 + 1 + 1 + 1 by omega]
    simp only [sm] at ih ⊢
    rw [ih, show 8 * m % 8 = 0 by omega, show (8 * m + 1) % 8 = 1 by omega, show (8 * m + 1 + 1) % 8 = 2 by omega, show (8 * m + 1 + 1 + 1) % 8 = 3 by omega, show (8 * m + 1 + 1 + 1 + 1) % 8 = 4 by omega, show (8 * m + 1 + 1 + 1 + 1 + 1) % 8 = 5 by omega, show (8 * m + 1 + 1 + 1 + 1 + 1 + 1) % 8 = 6 by omega, show (8 * m + 1 + 1 + 1 + 1 + 1 + 1 + 1) % 8 = 7 by omega]
    rw [show 8 * m / 8 = m by omega, show (8 * m + 1) / 8 = m by omega, show (8 * m + 1 + 1) / 8 = m by omega, show (8 * m + 1 + 1 + 1) / 8 = m by omega, show (8 * m + 1 + 1 + 1 + 1) / 8 = m by omega, show (8 * m + 1 + 1 + 1 + 1 + 1) / 8 = m by omega, show (8 * m + 1 + 1 + 1 + 1 + 1 + 1) / 8 = m by omega, show (8 * m + 1 + 1 + 1 + 1 + 1 + 1 + 1) / 8 = m by omega]
    omega
theorem Rw_sm : ∀ (n : Nat) (l : Ln), Rw n l = sm (fun x => zl (endl n x l)) (8 ^ n) := by
  intro n
  induction n with
  | zero => intro l; show zl l = 0 + zl l; rw [Nat.zero_add]
  | succ n ih =>
    intro l
    rw [Nat.pow_succ, Nat.mul_comm]
    have := sm_8 (fun k x => zl (endl n x (act k l))) (8 ^ n)
    show sm (fun k => Rw n (act k l)) 8 = sm (fun x => zl (endl n (x / 8) (act (x % 8) l))) (8 * 8 ^ n)
    rw [this]
    exact sm_c (fun k _ => ih (act k l))
theorem Rw_le : ∀ (n : Nat) (l : Ln), Rw n l ≤ 8 ^ n := by
  intro n l
  rw [Rw_sm]
  have := sm_le (f := fun x => zl (endl n x l)) (b := 1) (fun k => by show zl _ ≤ 1; unfold zl; split <;> omega) (8 ^ n)
  omega
/-- the class's count -/
theorem rows_l {N : Nat} (hN : 9 ≤ N) {fe : St → Int32 → Int32 → Option (Int32 × St)} {n : Nat} (hn : n < 100) (S : St) {l : Ln} (hl : okL l) (hfe : ∀ l, okL l → fe S (nI (cn l)) (nI n) = some (nI (Rw n l), S)) : ∀ (d k g : Nat), k + d = 8 → d < g → f_X6_rowsToEmpty_21 N fe g S (nI (cn l)) (nI (n + 1)) (nI (sm (fun k => Rw n (act k l)) k)) (nI k) = some (nI (Rw (n + 1) l), S) := by
  intro d
  induction d with
  | zero =>
    intro k g hk hg
    obtain ⟨g, rfl⟩ : ∃ e, g = e + 1 := ⟨g - 1, by omega⟩
    have hk : k = 8 := by omega
    subst hk
    rw [f_X6_rowsToEmpty_21, if_pos (nI_le (by omega) (by omega))]
    rfl
  | succ d ih =>
    intro k g hk hg
    obtain ⟨g, rfl⟩ : ∃ e, g = e + 1 := ⟨g - 1, by omega⟩
    rw [f_X6_rowsToEmpty_21, if_neg (nI_ge (by omega) (by omega)), after_ok (by omega) S hl (by omega), cal_s, neg1, hfe _ (act_ok hl (by omega)), cal_s, bnd_e, bnd_e, n_add, n_add]
    exact ih (k + 1) g (by omega) (by omega)
theorem rows_ok {N : Nat} (hN : 9 ≤ N) (S : St) : ∀ (n : Nat), n < 100 → ∀ (d : Nat) (l : Ln), n < d → okL l → g_X6_rowsToEmpty N d S (nI (cn l)) (nI n) = some (nI (Rw n l), S) := by
  intro n
  induction n with
  | zero =>
    intro _ d l hd hl
    obtain ⟨d, rfl⟩ : ∃ e, d = e + 1 := ⟨d - 1, by omega⟩
    have h5 := hl.1
    rw [g_X6_rowsToEmpty, f_X6_rowsToEmpty, if_neg (by decide), countOf_ok (by omega) S hl, cal_s]
    show _ = some (nI (zl l), S)
    unfold zl
    by_cases e : l.1 = 0
    · rw [if_pos e, if_pos (by rw [e]; rfl)]
    · rw [if_neg e, if_neg (by rw [z_eq (by omega)]; exact e)]
  | succ n ih =>
    intro hn d l hd hl
    obtain ⟨d, rfl⟩ : ∃ e, d = e + 1 := ⟨d - 1, by omega⟩
    rw [g_X6_rowsToEmpty, f_X6_rowsToEmpty, if_pos (by rw [z_gt (by omega)]; omega), bnd_e, bnd_e]
    exact rows_l hN (by omega) S hl (fun l hl => ih (by omega) d l (by omega) hl) 8 0 N (by omega) (by omega)
/-- least terms by halving -/
theorem half_ok {N : Nat} (S : St) (w : Int32) : ∀ (t u g : Nat), t < 31 → u < 2147483648 → t < g → f_X6_odds_38 N g S w (nI u) (nI (2 ^ t)) = some (if w = 0 then (nI (u / Nat.gcd u (2 ^ t))).toInt64 else (nI (2 ^ t / Nat.gcd u (2 ^ t))).toInt64, S) := by
  intro t
  induction t with
  | zero =>
    intro u g ht hu hg
    obtain ⟨g, rfl⟩ : ∃ e, g = e + 1 := ⟨g - 1, by omega⟩
    rw [f_X6_odds_38, if_pos (by decide), f_X6_odds_63, Nat.pow_zero, Nat.gcd_one_right, Nat.div_one, Nat.div_one]
    split <;> rfl
  | succ t ih =>
    intro u g ht hu hg
    obtain ⟨g, rfl⟩ : ∃ e, g = e + 1 := ⟨g - 1, by omega⟩
    have hp : 2 ^ (t + 1) = 2 * 2 ^ t := by rw [Nat.pow_succ, Nat.mul_comm]
    have hpos : 0 < 2 ^ t := Nat.pow_pos (by decide)
    have hle : 2 ^ (t + 1) ≤ 2 ^ 30 := Nat.pow_le_pow_right (by decide) (by omega)
    have hle : 2 ^ (t + 1) ≤ 1073741824 := hle
    rw [f_X6_odds_38, if_neg (nI_ge (by omega) (by omega)), pk_div (a := u) (d := 2) (by omega) (by decide) (by decide), pk_div (a := 2 ^ (t + 1)) (d := 2) (by omega) (by decide) (by decide), n_mul, n_sub (by omega)]
    by_cases e : u % 2 = 0
    · obtain ⟨v, rfl⟩ : ∃ v, u = 2 * v := ⟨u / 2, by omega⟩
      rw [if_pos (by rw [z_eq (by omega)]; omega), bnd_e, bnd_e, hp, Nat.mul_div_cancel_left _ (by decide), Nat.mul_div_cancel_left _ (by decide), ih v g (by omega) (by omega) (by omega), Nat.gcd_mul_left, Nat.mul_div_mul_left _ _ (by decide), Nat.mul_div_mul_left _ _ (by decide)]
    · have hco : Nat.gcd u (2 ^ (t + 1)) = 1 := by
        apply Nat.Coprime.pow_right
        show Nat.gcd u 2 = 1
        rw [Nat.gcd_comm, Nat.gcd_rec, show u % 2 = 1 by omega]
        rfl
      rw [if_neg (by rw [z_eq (by omega)]; omega), f_X6_odds_63, hco, Nat.div_one, Nat.div_one]
      split <;> rfl
theorem lN_int {a : Nat} (h : a < 2147483648) : (lN a).toInt = a := Int64.toInt_ofNat_of_lt (by omega)
theorem lN_e {a b : Nat} (ha : a < 2147483648) (hb : b < 2147483648) : lN a = lN b ↔ a = b := by
  rw [← Int64.toInt_inj, lN_int ha, lN_int hb]
  omega
theorem lN_div {a b : Nat} (ha : a < 2147483648) (hb : b < 2147483648) : lN a / lN b = lN (a / b) := by
  have h1 : a / b ≤ a := Nat.div_le_self a b
  apply Int64.toInt_inj.mp
  rw [Int64.toInt_div, lN_int ha, lN_int hb, lN_int (by omega), ← Int.ofNat_tdiv]
  generalize a / b = q at h1 ⊢
  exact Int.bmod_eq_of_le (by omega) (by omega)
theorem lg_0 {b : Nat} (hb : b < 2147483648) : lg_cmp (lN b) (0 : Int64) = (0 : Int32) ↔ b = 0 := by
  have h0 : lN b = 0 ↔ b = 0 := lN_e (b := 0) hb (by decide)
  by_cases e : b = 0
  · subst e
    exact ⟨fun _ => rfl, fun _ => by decide⟩
  · refine ⟨fun h => ?_, fun h => absurd h e⟩
    exfalso
    have hne : lN b ≠ 0 := fun z => e (h0.mp z)
    have h1 : ¬ lN b < 0 := fun z => by
      have := Int64.lt_iff_toInt_lt.mp z
      rw [lN_int hb] at this
      have e0 : (0 : Int64).toInt = 0 := rfl
      omega
    have h2 : (0 : Int64) < lN b := by
      apply Int64.lt_iff_toInt_lt.mpr
      rw [lN_int hb]
      have e0 : (0 : Int64).toInt = 0 := rfl
      omega
    revert h
    simp [lg_cmp, hne, h1, h2]
/-- least terms by the greatest part of both -/
theorem least_ok {N : Nat} (S : St) (w : Int32) {u L : Nat} (hu : u < 2147483648) (hL : L < 2147483648) (hL0 : 0 < L) : ∀ (b a g : Nat), a < 2147483648 → b < 2147483648 → b < g → Nat.gcd a b = Nat.gcd u L → f_X7_inLeastTerms_6 N g S (lN u) (lN L) w (lN a) (lN b) = some (if w = 0 then lN (u / Nat.gcd u L) else lN (L / Nat.gcd u L), S) := by
  intro b
  induction b using Nat.strongRecOn with
  | _ b ih =>
    intro a g ha hb hg hgcd
    obtain ⟨g, rfl⟩ : ∃ e, g = e + 1 := ⟨g - 1, by omega⟩
    rw [f_X7_inLeastTerms_6]
    by_cases e : b = 0
    · subst e
      rw [Nat.gcd_zero_right] at hgcd
      have hp : 0 < Nat.gcd u L := Nat.gcd_pos_of_pos_right u hL0
      have ha0 : ¬ lN a = (0 : Int64) := fun z => by
        have : a = 0 := (lN_e (b := 0) ha (by decide)).mp z
        omega
      rw [if_pos ((lg_0 hb).mpr rfl), if_pos ha0, if_pos ha0, lN_div hu ha, lN_div hL ha, hgcd]
      split <;> rfl
    · have hb0 : ¬ lN b = (0 : Int64) := fun z => e ((lN_e (b := 0) hb (by decide)).mp z)
      have hdm := Nat.div_add_mod a b
      have hmul : a / b * b ≤ a := Nat.div_mul_le_self a b
      have hrem : a - a / b * b = a % b := by rw [Nat.mul_comm] at hmul ⊢; omega
      have hlt : a % b < b := Nat.mod_lt _ (by omega)
      have hstep : lN a - lN a / lN b * lN b = lN (a % b) := by
        rw [lN_div ha hb, ← hrem]
        unfold lN
        rw [← Int64.ofNat_mul, ← Int64.ofNat_sub _ _ hmul]
      rw [if_neg (fun z => e ((lg_0 hb).mp z)), if_pos hb0, hstep, bnd_e]
      refine ih (a % b) hlt b g hb (by omega) (by omega) ?_
      rw [← hgcd, Nat.gcd_comm a b, Nat.gcd_rec b a, Nat.gcd_comm]
theorem endl_ok : ∀ (n x : Nat) (l : Ln), okL l → okL (endl n x l)
  | 0, _, _, h => h
  | n + 1, x, l, h => endl_ok n (x / 8) _ (act_ok h (Nat.mod_lt _ (by decide)))
theorem odds_row {N : Nat} (hN : 7 ≤ N) {n x : Nat} (hn : n ≤ 4) (hx : x < 4096) (k34 : St → Int32 → Int32 → Int32 → Int32 → Int32 → Option (Int64 × St)) (x2 x3 : Int32) (acc : Nat) : ∀ (d p g : Nat) (S : St) (l : Ln), p + d = n → d < g → Reg S l → ∃ S', f_X7_odds_51 N k34 g S (nI n) x2 x3 (nI acc) (nI x) (nI p) = k34 S' (nI n) x2 x3 (nI (acc + zl (endl d (x / 2 ^ (3 * p)) l))) (nI (x + 1)) ∧ frW S S' := by
  intro d
  induction d with
  | zero =>
    intro p g S l hp hg hR
    obtain ⟨g, rfl⟩ : ∃ e, g = e + 1 := ⟨g - 1, by omega⟩
    have h5 := hR.1.1
    refine ⟨S, ?_, frW.rf S⟩
    rw [f_X7_odds_51, if_pos (nI_le (by omega) (by omega)), hR.2.1, bnd_e, bnd_e, bnd_e, bnd_e, n_add, n_add, n_add]
    show _ = k34 S (nI n) x2 x3 (nI (acc + zl l)) (nI (x + 1))
    unfold zl
    by_cases e : l.1 = 0
    · rw [if_pos e, if_pos (by rw [e]; rfl)]
    · rw [if_neg e, if_neg (by rw [z_eq (by omega)]; exact e)]
  | succ d ih =>
    intro p g S l hp hg hR
    obtain ⟨g, rfl⟩ : ∃ e, g = e + 1 := ⟨g - 1, by omega⟩
    have hxx : x / 2 ^ (3 * p) ≤ x := Nat.div_le_self _ _
    have hk8 : x / 2 ^ (3 * p) % 8 < 8 := Nat.mod_lt _ (by decide)
    obtain ⟨S1, c1, c2, c3, c4⟩ := presses_ok (N := N) hN S hR hk8
    obtain ⟨S', b1, b2⟩ := ih (p + 1) g S1 _ (by omega) (by omega) c2
    refine ⟨S', ?_, c3.tr b2⟩
    rw [f_X7_odds_51, if_neg (nI_ge (by omega) (by omega)), n_mul, sh_r (by omega) (by omega), and_m 3 (by omega) (by decide) (by decide), c1, cal_s, bnd_e, n_add, b1]
    have he : x / 2 ^ (3 * (p + 1)) = x / 2 ^ (3 * p) / 8 := by
      rw [show 3 * (p + 1) = 3 * p + 3 by omega, Nat.pow_add, ← Nat.div_div_eq_div_mul]
    rw [he]
    rfl
theorem odds_all {N : Nat} (hN : 5000 ≤ N) {n : Nat} (hn : n ≤ 4) (w : Int32) {l : Ln} (hl : okL l) : ∀ (d x g : Nat) (S : St), x + d = 8 ^ n → d < g → S 32 7 = nI (rn l) → ∃ S', f_X7_odds_34 N g S (nI n) w (nI (8 ^ n)) (nI (sm (fun x => zl (endl n x l)) x)) (nI x) = some (if w = 0 then lN (Rw n l / Nat.gcd (Rw n l) (8 ^ n)) else lN (8 ^ n / Nat.gcd (Rw n l) (8 ^ n)), S') ∧ frW S S' := by
  have h8 : 8 ^ n ≤ 8 ^ 4 := Nat.pow_le_pow_right (by decide) hn
  have h8 : 8 ^ n ≤ 4096 := h8
  have h80 : 0 < 8 ^ n := Nat.pow_pos (by decide)
  have hR := Rw_le n l
  intro d
  induction d with
  | zero =>
    intro x g S hx hg h7
    obtain ⟨g, rfl⟩ : ∃ e, g = e + 1 := ⟨g - 1, by omega⟩
    have hx : x = 8 ^ n := by omega
    subst hx
    refine ⟨S, ?_, frW.rf S⟩
    rw [f_X7_odds_34, if_pos (nI_le (by omega) (by omega)), ← Rw_sm, nI_l (by omega), nI_l (by omega), f_X7_inLeastTerms, least_ok S w (by omega) (by omega) h80 (8 ^ n) (Rw n l) N (by omega) (by omega) (by omega) rfl, cal_s]
  | succ d ih =>
    intro x g S hx hg h7
    obtain ⟨g, rfl⟩ : ∃ e, g = e + 1 := ⟨g - 1, by omega⟩
    obtain ⟨S1, a1, a2, a3, a4⟩ := workOn_ok (N := N) (by omega) S hl
    obtain ⟨S2, b1, b2⟩ := odds_row (N := N) (by omega) hn (x := x) (by omega) (f_X7_odds_34 N g) w (nI (8 ^ n)) (sm (fun x => zl (endl n x l)) x) n 0 N S1 l (by omega) (by omega) a2
    rw [Nat.mul_zero, Nat.pow_zero, Nat.div_one] at b1
    have hf := a3.tr b2
    obtain ⟨S', d1, d2⟩ := ih (x + 1) g S2 (by omega) (by omega) ((hf.2 7 (by decide) (by decide) (by decide)).trans h7)
    refine ⟨S', ?_, hf.tr d2⟩
    rw [f_X7_odds_34, if_neg (nI_ge (by omega) (by omega)), h7, a1, cal_s, bnd_e, b1]
    exact d1
theorem b_odds {N : Nat} (hN : 5000 ≤ N) (x y : Int32) : Both (fun S => f_X6_odds N S x y) (fun S => f_X7_odds N S x y) := by
  refine Both.of fun a ha => ?_
  by_cases hx : x < 0 ∨ nI 4 < x
  · refine ⟨-9223372036854775808, a, fun S hC => ⟨S, ?_, hC, frC.rf S⟩, fun S hM => ⟨S, ?_, hM, frM.rf S⟩⟩
    · show f_X6_odds N S x y = _
      rw [f_X6_odds]
      by_cases c : x < 0
      · rw [if_pos c]
      · rw [if_neg c, if_pos (hx.resolve_left c)]
    · show f_X7_odds N S x y = _
      rw [f_X7_odds, within_no N S (lo := nI 0) hx, cal_s, if_pos nI_0]
  obtain ⟨n, -, n4, rfl⟩ := rng (lo := 0) (hi := 4) (by decide) (by decide) (fun w => hx (Or.inl w)) (fun w => hx (Or.inr w))
  have h8 : 8 ^ n ≤ 8 ^ 4 := Nat.pow_le_pow_right (by decide) n4
  have h8 : 8 ^ n ≤ 4096 := h8
  have h82 : 8 ^ n = 2 ^ (3 * n) := by rw [Nat.pow_mul]
  have hR := Rw_le n a.2.1
  by_cases hy : y = 0 ∨ y = nI 1
  · have hg1 : Rw n a.2.1 / Nat.gcd (Rw n a.2.1) (8 ^ n) ≤ Rw n a.2.1 := Nat.div_le_self _ _
    have hg2 : 8 ^ n / Nat.gcd (Rw n a.2.1) (8 ^ n) ≤ 8 ^ n := Nat.div_le_self _ _
    refine ⟨if y = 0 then lN (Rw n a.2.1 / Nat.gcd (Rw n a.2.1) (8 ^ n)) else lN (8 ^ n / Nat.gcd (Rw n a.2.1) (8 ^ n)), a, fun S hC => ⟨S, ?_, hC, frC.rf S⟩, fun S hM => ?_⟩
    · show f_X6_odds N S (nI n) y = _
      have h22 : f_X6_odds_22 N S (nI n) y = some (if y = 0 then lN (Rw n a.2.1 / Nat.gcd (Rw n a.2.1) (8 ^ n)) else lN (8 ^ n / Nat.gcd (Rw n a.2.1) (8 ^ n)), S) := by
        rw [f_X6_odds_22, hC.2.2.1, rows_ok (by omega) S n (by omega) 5 a.2.1 (by omega) ha.2.1, cal_s, bnd_e, n_mul, sh_l (by omega) (by rw [← h82]; omega), Nat.one_mul, half_ok S y (3 * n) (Rw n a.2.1) N (by omega) (by omega) (by omega), ← h82, nI_l (by omega), nI_l (by omega)]
      rw [f_X6_odds, if_neg (nI_pos (by omega)), if_neg (nI_nlt n4 (by omega))]
      by_cases hw : y = 0
      · rw [if_pos hw, h22]
      · rw [if_neg hw, if_pos (hy.resolve_left hw), h22]
    · obtain ⟨S', b1, b2⟩ := odds_all hN n4 y ha.2.1 (8 ^ n) 0 N S (by omega) (by omega) hM.2.2.1
      refine ⟨S', ?_, hM.W b2, b2.M⟩
      show f_X7_odds N S (nI n) y = _
      have hwi : f_X7_within N S y (nI 0) (nI 1) = some (nI 1, S) := by
        rcases hy with rfl | rfl
        · exact within_in N S (j := 0) (lo := 0) (hi := 1) (by decide) (by decide) (by decide)
        · exact within_in N S (j := 1) (lo := 0) (hi := 1) (by decide) (by decide) (by decide)
      rw [f_X7_odds, within_in N S (Nat.zero_le _) n4 (by decide), cal_s, if_neg (by decide), hwi, cal_s, if_neg (by decide), n_mul, sh_l (by omega) (by rw [← h82]; omega), Nat.one_mul, ← h82, bnd_e, bnd_e, bnd_e]
      exact b1
  · refine ⟨-9223372036854775808, a, fun S hC => ⟨S, ?_, hC, frC.rf S⟩, fun S hM => ⟨S, ?_, hM, frM.rf S⟩⟩
    · show f_X6_odds N S (nI n) y = _
      rw [f_X6_odds, if_neg (nI_pos (by omega)), if_neg (nI_nlt n4 (by omega)), if_neg (fun z => hy (Or.inl z)), if_neg (fun z => hy (Or.inr z))]
    · show f_X7_odds N S (nI n) y = _
      have hwi : f_X7_within N S y (nI 0) (nI 1) = some (nI 0, S) := by
        apply within_no
        by_cases c1 : y < nI 0
        · exact Or.inl c1
        · by_cases c2 : nI 1 < y
          · exact Or.inr c2
          · obtain ⟨j, j1, j2, rfl⟩ := rng (lo := 0) (hi := 1) (by decide) (by decide) c1 c2
            exfalso
            rcases (show j = 0 ∨ j = 1 by omega) with rfl | rfl
            · exact hy (Or.inl rfl)
            · exact hy (Or.inr rfl)
      rw [f_X7_odds, within_in N S (Nat.zero_le _) n4 (by decide), cal_s, if_neg (by decide), hwi, cal_s, if_pos nI_0]
