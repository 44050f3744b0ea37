/-! PURE PART: numbers -/
theorem fa_lit (n : Nat) : (OfNat.ofNat n : Int32) = nI n := rfl
theorem bnd_e {α β : Type} (e : α) (k : α → β) : bnd e k = k e := rfl
theorem cal_s {α β : Type} (a : α) (s : St) (k : α → St → Option β) : cal (some (a, s)) k = k a s := rfl
theorem opt_0 {β : Type} (a : Option β) (k : Nat → Option β) : opt none a k = a := rfl
theorem opt_1 {β : Type} (a : Option β) (k : Nat → Option β) (j : Nat) : opt (some j) a k = k j := rfl
theorem inb_i {a n : Nat} (h : a < 2147483648) : (inb (nI a) n = true) = (a < n) := by
  apply propext
  unfold inb
  rw [decide_eq_true_iff, nI_clamp h]
  have h0 := nI_pos (n := a) h
  constructor
  · intro z; exact Nat.lt_of_not_le (fun w => z (Or.inr w))
  · rintro z (w | w)
    · exact h0 w
    · exact absurd z (Nat.not_lt.mpr w)
theorem n_lt {a b : Nat} (ha : a < 2147483648) (hb : b < 2147483648) : (nI a < nI b) = (a < b) := propext (nI_ltI ha hb)
theorem n_le {a b : Nat} (ha : a < 2147483648) (hb : b < 2147483648) : (nI a ≤ nI b) = (a ≤ b) := propext (nI_leI ha hb)
theorem n_eq {a b : Nat} (ha : a < 2147483648) (hb : b < 2147483648) : (nI a = nI b) = (a = b) := propext (nI_eq ha hb)
theorem n_cl {a : Nat} (h : a < 2147483648) : (nI a).toNatClampNeg = a := nI_clamp h
theorem n_neg (k a : Nat) (hk : 0 < k) (hk2 : k ≤ 2147483648) (ha : a < 2147483648) : ¬ nI a = -nI k := fun h => by
  have h1 : (nI a).toInt = (-nI k).toInt := by rw [h]
  rw [nI_toInt ha, Int32.toInt_neg] at h1
  rcases Nat.lt_or_ge k 2147483648 with hk3 | hk3
  · rw [nI_toInt hk3, Int.bmod_def] at h1
    have h2 : ((-(k : Int)) % ((2 ^ 32 : Nat) : Int)) = 4294967296 - k := by omega
    rw [h2] at h1
    omega
  · have hk4 : k = 2147483648 := by omega
    subst hk4
    have : (-(nI 2147483648).toInt).bmod (2 ^ 32) = -2147483648 := by decide
    rw [this] at h1
    omega
theorem fr_0 : frs 0 = nI 0 := rfl
theorem fr_1 : frs 1 = nI 1 := rfl
theorem fr_2 : frs 2 = nI 9 := rfl
theorem fr_3 : frs 3 = nI 57 := rfl
theorem fr_4 : frs 4 = nI 313 := rfl
theorem fr_5 : frs 5 = nI 1593 := rfl
theorem n_sub {a b : Nat} (h : b ≤ a) : nI a - nI b = nI (a - b) := pk_sub h
theorem n_add (a b : Nat) : nI a + nI b = nI (a + b) := nI_add a b
theorem n_mul (a b : Nat) : nI a * nI b = nI (a * b) := pk_mul a b
