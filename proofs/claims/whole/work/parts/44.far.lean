/-! how far lines are from those that have the letters -/
def Fa (c : List Mac) (G : Ln → Bool) : Nat → Ln → Option Nat
  | 0, l => if G l then some 0 else none
  | n + 1, l => match Fa c G n l with
    | some m => some m
    | none => if (List.range' 0 (8 + c.length)).any (fun k => decide (Fa c G n (go c k l) = some n)) then some (n + 1) else none
section
variable {c : List Mac} {G : Ln → Bool}
theorem Fa_s {n : Nat} {l : Ln} {m : Nat} (h : Fa c G n l = some m) : Fa c G (n + 1) l = some m := by
  show (match Fa c G n l with | some m => some m | none => _) = _
  rw [h]
theorem Fa_n {n : Nat} {l : Ln} (h : Fa c G n l = none) : Fa c G (n + 1) l = if (List.range' 0 (8 + c.length)).any (fun k => decide (Fa c G n (go c k l) = some n)) then some (n + 1) else none := by
  show (match Fa c G n l with | some m => some m | none => _) = _
  rw [h]
theorem Fa_up {n : Nat} {l : Ln} {m : Nat} (h : Fa c G n l = some m) : ∀ j, Fa c G (n + j) l = some m
  | 0 => h
  | j + 1 => Fa_s (Fa_up h j)
theorem Fa_le : ∀ {n : Nat} {l : Ln} {m : Nat}, Fa c G n l = some m → m ≤ n ∧ Fa c G m l = some m := by
  intro n
  induction n with
  | zero =>
    intro l m h
    have h0 := h
    rw [Fa] at h
    split at h
    · have := Option.some.inj h
      subst this
      exact ⟨Nat.le_refl _, h0⟩
    · cases h
  | succ n ih =>
    intro l m h
    cases hn : Fa c G n l with
    | some m' =>
      rw [Fa_s hn] at h
      have := Option.some.inj h
      subst this
      obtain ⟨a, b⟩ := ih hn
      exact ⟨by omega, b⟩
    | none =>
      have h0 := h
      rw [Fa_n hn] at h
      split at h
      · have := Option.some.inj h
        subst this
        exact ⟨Nat.le_refl _, h0⟩
      · cases h
theorem Fa_0 {n : Nat} {l : Ln} : Fa c G n l = some 0 ↔ G l = true := by
  constructor
  · intro h
    have h := (Fa_le h).2
    rw [Fa] at h
    split at h
    · assumption
    · cases h
  · intro h
    have : Fa c G 0 l = some 0 := by rw [Fa, if_pos h]
    have := Fa_up this n
    rw [Nat.zero_add] at this
    exact this
/-- what is so far now, was so far ahead of the round -/
theorem Fa_cur {n : Nat} {l : Ln} : Fa c G (n + 1) l = some n ↔ Fa c G n l = some n := by
  constructor
  · intro h
    exact (Fa_le h).2
  · exact Fa_s
theorem Fa_prev {n : Nat} {l : Ln} (h : Fa c G (n + 1) l = some (n + 1)) : Fa c G n l = none ∧ ∃ k, k < 8 + c.length ∧ Fa c G n (go c k l) = some n := by
  cases hn : Fa c G n l with
  | some m =>
    rw [Fa_s hn] at h
    have := Option.some.inj h
    subst this
    have := (Fa_le hn).1
    omega
  | none =>
    rw [Fa_n hn] at h
    split at h
    · rename_i ha
      obtain ⟨k, hk, hd⟩ := List.any_eq_true.mp ha
      rw [List.mem_range'_1] at hk
      exact ⟨rfl, k, by omega, of_decide_eq_true hd⟩
    · cases h
theorem Fa_many (hc : okC c) : ∀ (n : Nat) (l : Ln), okL l → Fa c G n l = some n → ∃ q : List Ln, q.Nodup ∧ (∀ e ∈ q, okL e ∧ ∃ j, Fa c G n e = some j) ∧ q.length = n + 1 := by
  intro n
  induction n with
  | zero => intro l hl h; exact ⟨[l], List.nodup_cons.mpr ⟨List.not_mem_nil, List.nodup_nil⟩, fun e he => by rw [List.mem_singleton.mp he]; exact ⟨hl, 0, h⟩, rfl⟩
  | succ n ih =>
    intro l hl h
    obtain ⟨h1, k, hk, h2⟩ := Fa_prev h
    obtain ⟨q, q1, q2, q3⟩ := ih _ (go_ok hc hk hl) h2
    refine ⟨l :: q, List.nodup_cons.mpr ⟨fun z => ?_, q1⟩, fun e he => ?_, by rw [List.length_cons, q3]⟩
    · obtain ⟨_, j, hj⟩ := q2 l z
      rw [h1] at hj; cases hj
    · rcases List.mem_cons.mp he with z | z
      · rw [z]; exact ⟨hl, _, h⟩
      · obtain ⟨a, j, hj⟩ := q2 e z
        exact ⟨a, j, Fa_s hj⟩
theorem Fa_lt (hc : okC c) {n m : Nat} {l : Ln} (hl : okL l) (h : Fa c G n l = some m) : m ≤ 7736 := by
  obtain ⟨q, q1, q2, q3⟩ := Fa_many hc m l hl (Fa_le h).2
  have := nd_len q1 (fun e he => (q2 e he).1)
  omega
theorem Fa_stop (hc : okC c) {n : Nat} (h : ∀ l, okL l → Fa c G (n + 1) l = Fa c G n l) : ∀ j l, okL l → Fa c G (n + j) l = Fa c G n l := by
  intro j
  induction j with
  | zero => intro l _; rfl
  | succ j ih =>
    intro l hl
    cases j with
    | zero => exact h l hl
    | succ j =>
      cases hn : Fa c G n l with
      | some m => exact Fa_up hn _
      | none =>
        show Fa c G (n + (j + 1) + 1) l = _
        rw [Fa_n (by rw [ih l hl]; exact hn), if_neg]
        intro z
        obtain ⟨k, hk, hd⟩ := List.any_eq_true.mp z
        rw [List.mem_range'_1] at hk
        have hd := of_decide_eq_true hd
        rw [ih _ (go_ok hc (by omega) hl)] at hd
        have := (Fa_le hd).1
        omega
/-- how far, at last; what can not be come to is far away -/
def Dt (c : List Mac) (G : Ln → Bool) (l : Ln) : Nat := (Fa c G 7737 l).getD 99999
theorem Dt_s {l : Ln} {m : Nat} (h : Fa c G 7737 l = some m) : Dt c G l = m := by unfold Dt; rw [h]; rfl
theorem Dt_n {l : Ln} (h : Fa c G 7737 l = none) : Dt c G l = 99999 := by unfold Dt; rw [h]; rfl
theorem Dt_b (hc : okC c) {l : Ln} (hl : okL l) : Dt c G l ≤ 7736 ∨ Dt c G l = 99999 := by
  cases h : Fa c G 7737 l with
  | some m => rw [Dt_s h]; exact Or.inl (Fa_lt hc hl h)
  | none => exact Or.inr (Dt_n h)
theorem Dt_0 {l : Ln} : Dt c G l = 0 ↔ G l = true := by
  rw [← Fa_0 (n := 7737) (c := c)]
  constructor
  · intro h
    cases hn : Fa c G 7737 l with
    | some m => rw [Dt_s hn] at h; rw [h]
    | none => rw [Dt_n hn] at h; cases h
  · exact Dt_s
theorem Dt_e (hc : okC c) {l : Ln} (hl : okL l) {k : Nat} (hk : k < 8 + c.length) : Dt c G l ≤ Dt c G (go c k l) + 1 := by
  cases h : Fa c G 7737 (go c k l) with
  | none => rw [Dt_n h]; rcases Dt_b (G := G) hc hl with z | z <;> omega
  | some m =>
    rw [Dt_s h]
    have hm := Fa_lt hc (go_ok hc hk hl) h
    have hm2 := (Fa_le h).2
    cases hn : Fa c G m l with
    | some m' =>
      have h1 := Fa_up hn (7737 - m)
      rw [show m + (7737 - m) = 7737 by omega] at h1
      rw [Dt_s h1]
      have := (Fa_le hn).1
      omega
    | none =>
      have h1 := Fa_n hn
      rw [if_pos (List.any_eq_true.mpr ⟨k, by rw [List.mem_range'_1]; omega, decide_eq_true hm2⟩)] at h1
      have h1 := Fa_up h1 (7737 - (m + 1))
      rw [show m + 1 + (7737 - (m + 1)) = 7737 by omega] at h1
      rw [Dt_s h1]
      omega
theorem Dt_x {l : Ln} (h0 : Dt c G l ≠ 0) (h1 : Dt c G l < 99999) : ∃ k, k < 8 + c.length ∧ Dt c G (go c k l) + 1 = Dt c G l := by
  cases hn : Fa c G 7737 l with
  | none => rw [Dt_n hn] at h1; omega
  | some m =>
    rw [Dt_s hn] at h0 ⊢
    obtain ⟨m, rfl⟩ : ∃ e, m = e + 1 := ⟨m - 1, by omega⟩
    obtain ⟨a, b⟩ := Fa_le hn
    obtain ⟨_, k, hk, hd⟩ := Fa_prev b
    have hd := Fa_up hd (7737 - m)
    rw [show m + (7737 - m) = 7737 by omega] at hd
    exact ⟨k, hk, by rw [Dt_s hd]⟩
end
/-- the first number that does -/
def nkF (P : Nat → Bool) : Nat → Nat → Nat
  | 0, k => k
  | d + 1, k => if P k then k else nkF P d (k + 1)
theorem nkF_ok {P : Nat → Bool} : ∀ (d k : Nat), (∃ j, k ≤ j ∧ j < k + d ∧ P j = true) → P (nkF P d k) = true ∧ nkF P d k < k + d ∧ k ≤ nkF P d k ∧ ∀ j, k ≤ j → j < nkF P d k → ¬ P j = true := by
  intro d
  induction d with
  | zero => rintro k ⟨j, h1, h2, _⟩; omega
  | succ d ih =>
    rintro k ⟨j, h1, h2, h3⟩
    unfold nkF
    by_cases e : P k = true
    · rw [if_pos e]
      exact ⟨e, by omega, Nat.le_refl _, fun j h1 h2 => by omega⟩
    · rw [if_neg e]
      obtain ⟨a1, a2, a3, a4⟩ := ih (k + 1) ⟨j, by
        rcases Nat.lt_or_ge k j with z | z
        · exact z
        · have : j = k := by omega
          subst this; exact absurd h3 e, by omega, h3⟩
      refine ⟨a1, by omega, by omega, fun j h1 h2 => ?_⟩
      by_cases ej : j = k
      · rw [ej]; exact e
      · exact a4 j (by omega) h2
/-- the first key that comes nearer -/
def nk (c : List Mac) (D : Ln → Nat) (l : Ln) : Nat := nkF (fun k => decide (D (go c k l) + 1 = D l)) (8 + c.length) 0
theorem nk_ok {c : List Mac} {D : Ln → Nat} {l : Ln} (h : ∃ k, k < 8 + c.length ∧ D (go c k l) + 1 = D l) : D (go c (nk c D l) l) + 1 = D l ∧ nk c D l < 8 + c.length ∧ ∀ j, j < nk c D l → ¬ D (go c j l) + 1 = D l := by
  obtain ⟨k, h1, h2⟩ := h
  obtain ⟨a1, a2, a3, a4⟩ := nkF_ok (P := fun k => decide (D (go c k l) + 1 = D l)) (8 + c.length) 0 ⟨k, Nat.zero_le _, by omega, decide_eq_true h2⟩
  exact ⟨of_decide_eq_true a1, by unfold nk; omega, fun j hj z => a4 j (Nat.zero_le _) hj (decide_eq_true z)⟩
def pth (c : List Mac) (D : Ln → Nat) : Nat → Ln → List Nat
  | 0, _ => []
  | m + 1, l => nk c D l :: pth c D m (go c (nk c D l) l)
theorem pth_len (c : List Mac) (D : Ln → Nat) : ∀ (m : Nat) (l : Ln), (pth c D m l).length = m
  | 0, _ => rfl
  | m + 1, l => by unfold pth; rw [List.length_cons, pth_len c D m]
