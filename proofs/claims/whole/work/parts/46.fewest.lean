/-! the reference's far, and fewest -/
def frF (S S' : St) : Prop := (∀ k, k ≠ 32 → k ≠ 45 → k ≠ 50 → k ≠ 51 → S' k = S k) ∧ ∀ j, j ≠ 20 → j ≠ 21 → j ≠ 22 → S' 32 j = S 32 j
theorem frF.rf (S : St) : frF S S := ⟨fun _ _ _ _ _ => rfl, fun _ _ _ _ => rfl⟩
theorem frF.tr {S T U : St} (h : frF S T) (g : frF T U) : frF S U := ⟨fun k a b c d => (g.1 k a b c d).trans (h.1 k a b c d), fun j a b c => (g.2 j a b c).trans (h.2 j a b c)⟩
theorem frW.F {S S' : St} (h : frW S S') : frF S S' := ⟨fun k a b _ _ => h.1 k a b, h.2⟩
theorem frQ.F {S S' : St} (h : frQ S S') : frF S S' := ⟨fun k _ _ a b => h k a b, fun j _ _ _ => by rw [h 32 (by decide) (by decide)]⟩
theorem frF.M {S S' : St} (h : frF S S') : frM S S' := fun k hk => h.1 k (by omega) (by omega) (by omega) (by omega)
theorem RM.F {S S' : St} {a : Ab} (h : RM S a) (hf : frF S S') : RM S' a := by
  have := h.re (S' := S') (fun k hk => hf.1 k (by omega) (by omega) (by omega) (by omega)) ⟨hf.2 5 (by decide) (by decide) (by decide), hf.2 27 (by decide) (by decide) (by decide), hf.2 28 (by decide) (by decide) (by decide), hf.2 32 (by decide) (by decide) (by decide)⟩ h.1.2.1 ((hf.2 7 (by decide) (by decide) (by decide)).trans h.2.2.1) ((hf.2 6 (by decide) (by decide) (by decide)).trans h.2.2.2.1) ((hf.2 1 (by decide) (by decide) (by decide)).trans h.2.2.2.2.1) ((hf.2 0 (by decide) (by decide) (by decide)).trans h.2.2.2.2.2.1)
  exact this
theorem CfM.F {S S' : St} {c : List Mac} (h : CfM S c) (hf : frF S S') : CfM S' c := h.eq (hf.2 5 (by decide) (by decide) (by decide)) ⟨hf.1 36 (by decide) (by decide) (by decide) (by decide), hf.1 37 (by decide) (by decide) (by decide) (by decide), hf.1 38 (by decide) (by decide) (by decide) (by decide), hf.1 39 (by decide) (by decide) (by decide) (by decide)⟩
/-- the letters told, as a number -/
def vl (f : Nat → Nat) : Nat → Nat
  | 0 => 0
  | p + 1 => vl f p * 4 + f p
theorem vl_lt {f : Nat → Nat} {n : Nat} (hf : ∀ p, p < n → f p < 4) : ∀ p, p ≤ n → vl f p < 4 ^ p := by
  intro p
  induction p with
  | zero => intro _; exact Nat.one_pos
  | succ p ih =>
    intro hp
    have h1 := ih (by omega)
    have h2 := hf p (by omega)
    show vl f p * 4 + f p < 4 ^ (p + 1)
    rw [Nat.pow_succ]
    omega
def ae (l : Ln) (f : Nat → Nat) : Nat → Nat → Bool
  | 0, _ => true
  | d + 1, p => decide (dg l p = f p) && ae l f d (p + 1)
theorem ae_iff {l : Ln} {f : Nat → Nat} : ∀ (d p : Nat), ae l f d p = true ↔ ∀ j, p ≤ j → j < p + d → dg l j = f j := by
  intro d
  induction d with
  | zero => intro p; exact ⟨fun _ j h1 h2 => by omega, fun _ => rfl⟩
  | succ d ih =>
    intro p
    show (decide (dg l p = f p) && ae l f d (p + 1)) = true ↔ _
    rw [Bool.and_eq_true, decide_eq_true_iff, ih]
    constructor
    · rintro ⟨h1, h2⟩ j h3 h4
      by_cases e : j = p
      · rw [e]; exact h1
      · exact h2 j (by omega) (by omega)
    · intro h
      exact ⟨h p (Nat.le_refl _) (by omega), fun j h1 h2 => h j (by omega) (by omega)⟩
theorem ae_vl {l : Ln} (hl : okL l) {f : Nat → Nat} (hf : ∀ p, p < l.1 → f p < 4) : ∀ p, p ≤ l.1 → ((∀ j, j < p → dg l j = f j) ↔ l.2.2 / 4 ^ (l.1 - p) = vl f p) := by
  intro p
  induction p with
  | zero =>
    intro _
    refine ⟨fun _ => ?_, fun _ j hj => by omega⟩
    rw [Nat.sub_zero]
    exact Nat.div_eq_of_lt hl.2.2
  | succ p ih =>
    intro hp
    have ih := ih (by omega)
    have hfp := hf p (by omega)
    have e1 : 4 ^ (l.1 - p) = 4 ^ (l.1 - (p + 1)) * 4 := by rw [← Nat.pow_succ]; congr 1; omega
    have e2 : l.2.2 / 4 ^ (l.1 - p) = l.2.2 / 4 ^ (l.1 - (p + 1)) / 4 := by rw [e1, Nat.div_div_eq_div_mul]
    have e3 : dg l p = l.2.2 / 4 ^ (l.1 - (p + 1)) % 4 := by unfold dg; rw [show l.1 - 1 - p = l.1 - (p + 1) by omega]
    show _ ↔ _ = vl f p * 4 + f p
    rw [e2] at ih
    generalize l.2.2 / 4 ^ (l.1 - (p + 1)) = w at ih e3
    constructor
    · intro h
      have h1 := ih.mp (fun j hj => h j (by omega))
      have h2 := h p (by omega)
      omega
    · intro h
      have h1 := ih.mpr (by omega)
      intro j hj
      by_cases e : j = p
      · rw [e]; omega
      · exact h1 j (by omega)
theorem cn_home {l : Ln} (hl : okL l) : cn (act 7 l) = cn (l.1, 0, l.2.2) := by
  have h : bmp 7 l = decide (l.2.1 = 0) := rfl
  by_cases e : l.2.1 = 0
  · rw [(bmp_act hl (key := 7) (by decide)).mp (by rw [h]; exact decide_eq_true e)]
    unfold cn
    dsimp only
    rw [e]
  · unfold act
    rw [if_neg (by decide), if_neg (by decide), if_neg e, if_neg (by decide), if_neg (by decide)]
theorem told_g {l : Ln} (hl : okL l) {n : Nat} (hn : n ≤ 5) {f : Nat → Nat} (hf : ∀ p, p < n → f p < 4) : hasG (nI (Fn n + 0 * 4 ^ n + vl f n)) l = (decide (l.1 = n) && ae l f n 0) := by
  have hv : okL (n, 0, vl f n) := ⟨hn, Nat.zero_le _, vl_lt hf n (Nat.le_refl _)⟩
  have hh : okL (l.1, 0, l.2.2) := ⟨hl.1, Nat.zero_le _, hl.2.2⟩
  have e1 : hasG (nI (Fn n + 0 * 4 ^ n + vl f n)) l = decide (nI (cn (l.1, 0, l.2.2)) = nI (cn (n, 0, vl f n))) := by
    unfold hasG; rw [cn_home hl]; rfl
  have c1 := cn_lt hh
  have c2 := cn_lt hv
  rw [e1, Bool.eq_iff_iff, Bool.and_eq_true, decide_eq_true_iff, decide_eq_true_iff, n_eq (by omega) (by omega), ae_iff]
  constructor
  · intro h
    have h := cn_inj hh hv h
    have h1 : l.1 = n := congrArg (fun z => z.1) h
    have h2 : l.2.2 = vl f n := congrArg (fun z => z.2.2) h
    subst h1
    have := (ae_vl hl hf l.1 (Nat.le_refl _)).mpr (by rw [Nat.sub_self, Nat.pow_zero, Nat.div_one]; exact h2)
    exact ⟨rfl, fun j _ hj => this j (by omega)⟩
  · rintro ⟨rfl, h⟩
    have := (ae_vl hl hf l.1 (Nat.le_refl _)).mp (fun j hj => h j (Nat.zero_le _) (by omega))
    rw [Nat.sub_self, Nat.pow_zero, Nat.div_one] at this
    rw [this]
theorem told_0 {N g : Nat} (S : St) (x1 x2 x4 : Int32) : f_X7_hasTold_17 N (g + 1) S x1 x2 (nI 0) x4 = some (nI 0, S) := by
  rw [f_X7_hasTold_17, if_pos (show nb (nI 0) = true from rfl), if_pos nI_0]
  split <;> rfl
theorem told_1 {N : Nat} {S : St} {l : Ln} (hR : Reg S l) {f : Nat → Nat} {x0 n : Nat} (hln : l.1 = n) (hx : x0 + n ≤ 240) (hf : ∀ p, p < n → f p < 4) (hS : ∀ q, q < n → S 35 (x0 + q) = nI (f q)) : ∀ (d p g : Nat), p + d = n → d + 1 < g → f_X7_hasTold_17 N g S (nI x0) (nI n) (nI 1) (nI p) = some (nI (b01 (ae l f d p)), S) := by
  have h5 := hR.1.1
  intro d
  induction d with
  | zero =>
    intro p g hp hg
    obtain ⟨g, rfl⟩ : ∃ e, g = e + 1 := ⟨g - 1, by omega⟩
    rw [f_X7_hasTold_17, if_pos (nI_le (by omega) (by omega)), if_pos (show nb (nI 1) = true from rfl)]
    rfl
  | succ d ih =>
    intro p g hp hg
    obtain ⟨g, rfl⟩ : ∃ e, g = e + 1 := ⟨g - 1, by omega⟩
    have hfp := hf p (by omega)
    have hdg := dg_lt l p
    rw [f_X7_hasTold_17, if_neg (nI_ge (by omega) (by omega)), if_neg (by decide), if_pos ((inb_i (by omega)).mpr (by omega)), n_add, if_pos ((inb_i (by omega)).mpr (by omega)), n_cl (by omega), n_cl (by omega), hR.2.2.2 p (by omega), hS p (by omega), bnd_e, bnd_e, bnd_e, bnd_e, n_add]
    unfold ae
    by_cases e : dg l p = f p
    · rw [if_pos (by rw [e]), ih (p + 1) g (by omega) (by omega), decide_eq_true e]
      rfl
    · rw [if_neg (by rw [n_eq (by omega) (by omega)]; exact e), decide_eq_false e]
      obtain ⟨g, rfl⟩ : ∃ e, g = e + 1 := ⟨g - 1, by omega⟩
      rw [told_0]
      rfl
theorem hasTold_ok {N : Nat} (hN : 8 ≤ N) {S : St} {l : Ln} (hR : Reg S l) {f : Nat → Nat} {x0 n : Nat} (hn : n ≤ 5) (hx : x0 + n ≤ 240) (hf : ∀ p, p < n → f p < 4) (hS : ∀ q, q < n → S 35 (x0 + q) = nI (f q)) : f_X7_hasTold N S (nI x0) (nI n) = some (nI (b01 (hasG (nI (Fn n + 0 * 4 ^ n + vl f n)) l)), S) := by
  have h5 := hR.1.1
  rw [f_X7_hasTold, hR.2.1, told_g hR.1 hn hf, bnd_e, bnd_e, bnd_e, bnd_e]
  by_cases e : l.1 = n
  · rw [if_pos (by rw [e]), told_1 hR e hx hf hS n 0 N (by omega) (by omega), decide_eq_true e]
    rfl
  · obtain ⟨N', hN'⟩ : ∃ e, N = e + 1 := ⟨N - 1, by omega⟩
    rw [if_neg (by rw [n_eq (by omega) (by omega)]; exact e), decide_eq_false e]
    have := told_0 (N := N) (g := N') S (nI x0) (nI n) (nI 0)
    rw [← hN'] at this
    exact this
def enF : Option Nat → Int32
  | some m => nI m
  | none => -9
theorem far_0 {N : Nat} (hN : 8 ≤ N) {f : Nat → Nat} {x0 n : Nat} (hn : n ≤ 5) (hx : x0 + n ≤ 240) (hf : ∀ p, p < n → f p < 4) (c : List Mac) : ∀ (d x g : Nat) (S : St), x + d = 7737 → d < g → (∀ q, q < n → S 35 (x0 + q) = nI (f q)) → ∃ S', f_X7_findFar_2 N g S (nI x0) (nI n) (nI x) = f_X7_findFar_46 N N S' (nI 1) (nI 1) ∧ frF S S' ∧ (∀ l, okL l → x ≤ rn l → S' 50 (rn l) = enF (Fa c (hasG (nI (Fn n + 0 * 4 ^ n + vl f n))) 0 l)) ∧ ∀ y, y < x → S' 50 y = S 50 y := by
  intro d
  induction d with
  | zero =>
    intro x g S hd hg hS
    obtain ⟨g, rfl⟩ : ∃ e, g = e + 1 := ⟨g - 1, by omega⟩
    exact ⟨S, by rw [f_X7_findFar_2, if_pos (nI_le (by omega) (by omega)), bnd_e, bnd_e], frF.rf S, fun l hl h => by have := rn_lt hl; omega, fun _ _ => rfl⟩
  | succ d ih =>
    intro x g S hd hg hS
    obtain ⟨g, rfl⟩ : ∃ e, g = e + 1 := ⟨g - 1, by omega⟩
    obtain ⟨l, hl, rfl⟩ := rn_sur (show x < 7737 by omega)
    obtain ⟨S1, a1, a2, a3, a4⟩ := workOn_ok (N := N) (by omega) S hl
    have h35 : S1 35 = S 35 := a3.1 35 (by decide) (by decide)
    have h50 : S1 50 = S 50 := a3.1 50 (by decide) (by decide)
    have hh := hasTold_ok hN a2 hn hx hf (fun q hq => by rw [h35]; exact hS q hq)
    have hin : inb (nI (rn l)) 7737 = true := (inb_i (by omega)).mpr (by omega)
    have hFa : enF (Fa c (hasG (nI (Fn n + 0 * 4 ^ n + vl f n))) 0 l) = if hasG (nI (Fn n + 0 * 4 ^ n + vl f n)) l = true then nI 0 else -9 := by
      rw [Fa]; split <;> rfl
    have hfr : ∀ v, frF S (st S1 50 (rn l) v) := fun v => a3.F.tr (frQ.st (by decide) _ _ _).F
    obtain ⟨S', b1, b2, b3, b4⟩ := ih (rn l + 1) g (st S1 50 (rn l) (enF (Fa c (hasG (nI (Fn n + 0 * 4 ^ n + vl f n))) 0 l))) (by omega) (by omega) (fun q hq => by rw [st_ne (by decide), h35]; exact hS q hq)
    refine ⟨S', ?_, (hfr _).tr b2, fun l' hl' h => ?_, fun y hy => by rw [b4 y (by omega), st_n (by omega), h50]⟩
    · rw [f_X7_findFar_2, if_neg (nI_ge (by omega) (by omega)), a1, cal_s, hh, cal_s, if_pos hin, if_pos hin, bnd_e, bnd_e, bnd_e, bnd_e, n_cl (by omega), n_add, ← b1, hFa]
      cases hasG (nI (Fn n + 0 * 4 ^ n + vl f n)) l
      · rw [if_pos (by rfl), if_neg (by decide)]
      · rw [if_neg (by decide), if_pos rfl]
    · by_cases e : rn l' = rn l
      · have := rn_inj hl' hl e
        subst this
        rw [b4 _ (by omega), st_s]
      · exact b3 l' hl' (by omega)
section
variable {N : Nat} {c : List Mac} {G : Ln → Bool}
theorem far_66d (hc : okC c) (k46 : St → Int32 → Int32 → Option (Unit × St)) (k55 : St → Int32 → Int32 → Int32 → Option (Unit × St)) {S : St} (hM : CfM S c) {l : Ln} (hl : okL l) {v : Nat} (hv : v < 10000) (h : S 50 (rn l) = nI v) (g : Nat) (ch x4 : Int32) (k : Nat) : f_X7_findFar_66 N k46 k55 (g + 1) S ch x4 (nI (rn l)) (nI k) = k55 S ch x4 (nI (rn l + 1)) := by
  have := rn_lt hl
  rw [f_X7_findFar_66, f_X7_keysThere, cal_s, hM.1, n_add, if_pos ((inb_i (by omega)).mpr this), n_cl (by omega), h, if_neg (n_9 (a := v) (by omega)), bnd_e, n_add]
  split <;> rfl
theorem far_66 (hc : okC c) (k46 : St → Int32 → Int32 → Option (Unit × St)) (k55 : St → Int32 → Int32 → Int32 → Option (Unit × St)) {S : St} (hM : CfM S c) (hT : mkT S c (8 + c.length)) {l : Ln} (hl : okL l) {n : Nat} (hn : n ≤ 7736) (h : S 50 (rn l) = -9) (hcur : ∀ m, okL m → (S 50 (rn m) = nI n ↔ Fa c G n m = some n)) (ch : Int32) : ∀ (d k g : Nat), k + d = 8 + c.length → d + 1 < g → f_X7_findFar_66 N k46 k55 g S ch (nI (n + 1)) (nI (rn l)) (nI k) = if (List.range' k d).any (fun k => decide (Fa c G n (go c k l) = some n)) = true then k55 (st S 50 (rn l) (nI (n + 1))) (nI 1) (nI (n + 1)) (nI (rn l + 1)) else k55 S ch (nI (n + 1)) (nI (rn l + 1)) := by
  have h3 := hc.1
  have hrl := rn_lt hl
  intro d
  induction d with
  | zero =>
    intro k g hk hg
    obtain ⟨g, rfl⟩ : ∃ e, g = e + 1 := ⟨g - 1, by omega⟩
    rw [f_X7_findFar_66, f_X7_keysThere, cal_s, hM.1, n_add, if_pos (nI_le (by omega) (by omega)), bnd_e, n_add]
    rfl
  | succ d ih =>
    intro k g hk hg
    obtain ⟨g, rfl⟩ : ∃ e, g = e + 1 := ⟨g - 1, by omega⟩
    have hgo := go_ok hc (k := k) (by omega) hl
    have hrg := rn_lt hgo
    have hin : inb (nI (rn l)) 7737 = true := (inb_i (by omega)).mpr hrl
    rw [f_X7_findFar_66, f_X7_keysThere, cal_s, hM.1, n_add, if_neg (nI_ge (by omega) (by omega)), if_pos hin, n_cl (a := rn l) (by omega), h, if_pos rfl, n_mul, n_add, if_pos ((inb_i (by omega)).mpr (by omega)), n_cl (a := 7737 * k + rn l) (by omega), hT k l (by omega) hl, if_pos ((inb_i (by omega)).mpr hrg), bnd_e, n_cl (a := rn (go c k l)) (by omega), neg1, List.range'_succ, List.any_cons]
    by_cases e : Fa c G n (go c k l) = some n
    · rw [if_pos ((hcur _ hgo).mpr e), if_pos hin, bnd_e, bnd_e, bnd_e, n_add, decide_eq_true e, Bool.true_or, if_pos rfl]
      obtain ⟨g, rfl⟩ : ∃ e, g = e + 1 := ⟨g - 1, by omega⟩
      have hfq : frQ S (st S 50 (rn l) (nI (n + 1))) := frQ.st (by decide) _ _ _
      exact far_66d hc k46 k55 (hM.Q hfq) hl (v := n + 1) (by omega) st_s g _ _ _
    · rw [if_neg (fun z => e ((hcur _ hgo).mp z)), bnd_e, n_add, ih (k + 1) g (by omega) (by omega), decide_eq_false e, Bool.false_or]
theorem far_55 (hN : 20 ≤ N) (hc : okC c) (k46 : St → Int32 → Int32 → Option (Unit × St)) {n : Nat} (hn : n ≤ 7736) : ∀ (d x g ch : Nat) (S : St), x + d = 7737 → d < g → CfM S c → mkT S c (8 + c.length) → (∀ m, okL m → rn m < x → S 50 (rn m) = enF (Fa c G (n + 1) m)) → (∀ m, okL m → x ≤ rn m → S 50 (rn m) = enF (Fa c G n m)) → ∃ S' ch', f_X7_findFar_55 N k46 g S (nI ch) (nI (n + 1)) (nI x) = k46 S' (nI ch') (nI (n + 1 + 1)) ∧ frQ S S' ∧ (∀ m, okL m → S' 50 (rn m) = enF (Fa c G (n + 1) m)) ∧ ((ch' = ch ∧ ∀ m, okL m → x ≤ rn m → Fa c G (n + 1) m = Fa c G n m) ∨ (ch' = 1 ∧ ∃ m, okL m ∧ Fa c G (n + 1) m = some (n + 1))) := by
  have h3 := hc.1
  intro d
  induction d with
  | zero =>
    intro x g ch S hd hg hM hT h1 h2
    obtain ⟨g, rfl⟩ : ∃ e, g = e + 1 := ⟨g - 1, by omega⟩
    exact ⟨S, ch, by rw [f_X7_findFar_55, if_pos (nI_le (by omega) (by omega)), bnd_e, n_add], frQ.rf S, fun m hm => h1 m hm (by have := rn_lt hm; omega), Or.inl ⟨rfl, fun m hm h => by have := rn_lt hm; omega⟩⟩
  | succ d ih =>
    intro x g ch S hd hg hM hT h1 h2
    obtain ⟨g, rfl⟩ : ∃ e, g = e + 1 := ⟨g - 1, by omega⟩
    obtain ⟨l, hl, rfl⟩ := rn_sur (show x < 7737 by omega)
    rw [f_X7_findFar_55, if_neg (nI_ge (by omega) (by omega)), bnd_e]
    have hstep : ∀ {S1 : St} {ch1 : Nat}, frQ S S1 → (∀ m, okL m → m ≠ l → S1 50 (rn m) = S 50 (rn m)) → S1 50 (rn l) = enF (Fa c G (n + 1) l) → ((ch1 = ch ∧ Fa c G (n + 1) l = Fa c G n l) ∨ (ch1 = 1 ∧ Fa c G (n + 1) l = some (n + 1))) → ∃ S' ch', f_X7_findFar_55 N k46 g S1 (nI ch1) (nI (n + 1)) (nI (rn l + 1)) = k46 S' (nI ch') (nI (n + 1 + 1)) ∧ frQ S S' ∧ (∀ m, okL m → S' 50 (rn m) = enF (Fa c G (n + 1) m)) ∧ ((ch' = ch ∧ ∀ m, okL m → rn l ≤ rn m → Fa c G (n + 1) m = Fa c G n m) ∨ (ch' = 1 ∧ ∃ m, okL m ∧ Fa c G (n + 1) m = some (n + 1))) := by
      intro S1 ch1 e1 e2 e3 e4
      obtain ⟨S', ch', a1, a2, a3, a4⟩ := ih (rn l + 1) g ch1 S1 (by omega) (by omega) (hM.Q e1) (hT.Q (e1 49 (by decide) (by decide))) (fun m hm h => by
        by_cases em : m = l
        · rw [em]; exact e3
        · rw [e2 m hm em]; exact h1 m hm (by
            rcases Nat.lt_or_ge (rn m) (rn l) with z | z
            · exact z
            · exact absurd (rn_inj hm hl (by omega)) em)) (fun m hm h => by
        have em : m ≠ l := fun z => by rw [z] at h; omega
        rw [e2 m hm em]; exact h2 m hm (by omega))
      refine ⟨S', ch', a1, e1.tr a2, a3, ?_⟩
      rcases e4 with ⟨z1, z2⟩ | ⟨z1, z2⟩
      · rcases a4 with ⟨y1, y2⟩ | y
        · refine Or.inl ⟨y1.trans z1, fun m hm h => ?_⟩
          by_cases em : m = l
          · rw [em]; exact z2
          · exact y2 m hm (by
              rcases Nat.lt_or_ge (rn l) (rn m) with z | z
              · exact z
              · exact absurd (rn_inj hm hl (by omega)) em)
        · exact Or.inr y
      · refine Or.inr ⟨?_, l, hl, z2⟩
        rcases a4 with ⟨y1, _⟩ | ⟨y1, _⟩
        · exact y1.trans z1
        · exact y1
    have hcurl := h2 l hl (Nat.le_refl _)
    cases hn0 : Fa c G n l with
    | some m =>
      have hm7 := Fa_lt hc hl hn0
      rw [hn0] at hcurl
      obtain ⟨N', hN'⟩ : ∃ e, N = e + 1 := ⟨N - 1, by omega⟩
      have hd := far_66d (N := N) hc k46 (f_X7_findFar_55 N k46 g) hM hl (v := m) (by omega) hcurl N' (nI ch) (nI (n + 1)) 0
      rw [← hN'] at hd
      rw [hd]
      exact hstep (frQ.rf S) (fun _ _ _ => rfl) (by rw [hcurl, Fa_s hn0]) (Or.inl ⟨rfl, by rw [Fa_s hn0, hn0]⟩)
    | none =>
      rw [hn0] at hcurl
      have hcur : ∀ m, okL m → (S 50 (rn m) = nI n ↔ Fa c G n m = some n) := fun m hm => by
        have hen : ∀ o : Option Nat, (∀ z, o = some z → z ≤ 7737) → (enF o = nI n ↔ o = some n) := by
          intro o ho
          cases o with
          | none => exact ⟨fun z => absurd z.symm (n_9 (by omega)), fun z => by cases z⟩
          | some z =>
            have := ho z rfl
            show nI z = nI n ↔ _
            rw [n_eq (by omega) (by omega)]
            exact ⟨fun h => by rw [h], fun h => Option.some.inj h⟩
        rcases Nat.lt_or_ge (rn m) (rn l) with z | z
        · rw [h1 m hm z, hen _ (fun y hy => by have := Fa_lt hc hm hy; omega), Fa_cur]
        · rw [h2 m hm z, hen _ (fun y hy => by have := Fa_lt hc hm hy; omega)]
      rw [far_66 hc k46 (f_X7_findFar_55 N k46 g) hM hT hl hn hcurl hcur (nI ch) (8 + c.length) 0 N (by omega) (by omega)]
      have hnx := Fa_n hn0
      by_cases ha : (List.range' 0 (8 + c.length)).any (fun k => decide (Fa c G n (go c k l) = some n)) = true
      · rw [if_pos ha] at hnx ⊢
        exact hstep (ch1 := 1) (frQ.st (by decide) _ _ _) (fun m hm hm2 => st_n (fun z => hm2 (rn_inj hm hl z))) (by rw [st_s, hnx]; rfl) (Or.inr ⟨rfl, hnx⟩)
      · rw [if_neg ha] at hnx ⊢
        exact hstep (frQ.rf S) (fun _ _ _ => rfl) (by rw [hcurl, hnx]) (Or.inl ⟨rfl, by rw [hnx, hn0]⟩)
theorem far_46 (hN : 7740 ≤ N) (hc : okC c) : ∀ (d n g : Nat) (S : St), n + d = 7737 → n ≤ 7736 → d + 1 < g → CfM S c → mkT S c (8 + c.length) → (∀ m, okL m → S 50 (rn m) = enF (Fa c G n m)) → ∃ S', f_X7_findFar_46 N g S (nI 1) (nI (n + 1)) = some ((), S') ∧ frQ S S' ∧ ∀ m, okL m → S' 50 (rn m) = enF (Fa c G 7737 m) := by
  intro d
  induction d with
  | zero => intro n g S hd hn; omega
  | succ d ih =>
    intro n g S hd hn hg hM hT hS
    obtain ⟨g, rfl⟩ : ∃ e, g = e + 1 := ⟨g - 1, by omega⟩
    obtain ⟨S1, ch, b1, b2, b3, b4⟩ := far_55 (N := N) (by omega) hc (f_X7_findFar_46 N g) hn 7737 0 N 0 S (by omega) (by omega) hM hT (fun m hm h => by omega) (fun m hm _ => hS m hm)
    rw [f_X7_findFar_46, if_neg (by decide), bnd_e, bnd_e, b1]
    rcases b4 with ⟨rfl, h⟩ | ⟨rfl, m, hm, h⟩
    · obtain ⟨g, rfl⟩ : ∃ e, g = e + 1 := ⟨g - 1, by omega⟩
      refine ⟨S1, by rw [f_X7_findFar_46, if_pos nI_0], b2, fun m hm => ?_⟩
      have hst := Fa_stop hc (fun l hl => h l hl (Nat.zero_le _)) (7737 - n) m hm
      rw [show n + (7737 - n) = 7737 by omega] at hst
      rw [b3 m hm, hst, h m hm (Nat.zero_le _)]
    · have := Fa_lt hc hm h
      obtain ⟨S', e1, e2, e3⟩ := ih (n + 1) g S1 (by omega) (by omega) (by omega) (hM.Q b2) (hT.Q (b2 49 (by decide) (by decide))) b3
      exact ⟨S', e1, b2.tr e2, e3⟩
end
