/-! PURE PART: numbers -/
theorem fa_lit (n : Nat) : (OfNat.ofNat n : Int32) = nI n := rfl
theorem bnd_e {α β : Type} (e : α) (k : α → β) : bnd e k = k e := rfl
theorem cal_s {α β : Type} (a : α) (s : St) (k : α → St → Option β) : cal (some (a, s)) k = k a s := rfl
theorem opt_0 {β : Type} (a : Option β) (k : Nat → Option β) : opt none a k = a := rfl
theorem opt_1 {β : Type} (a : Option β) (k : Nat → Option β) (j : Nat) : opt (some j) a k = k j := rfl
theorem inb_i {a n : Nat} (h : a < 2147483648) : (inb (nI a) n = true) = (a < n) := by
  apply propext
  unfold inb
  rw [decide_eq_true_iff, nI_clamp h]
  have h0 := nI_pos (n := a) h
  constructor
  · intro z; exact Nat.lt_of_not_le (fun w => z (Or.inr w))
  · rintro z (w | w)
    · exact h0 w
    · exact absurd z (Nat.not_lt.mpr w)
theorem n_lt {a b : Nat} (ha : a < 2147483648) (hb : b < 2147483648) : (nI a < nI b) = (a < b) := propext (nI_ltI ha hb)
theorem n_le {a b : Nat} (ha : a < 2147483648) (hb : b < 2147483648) : (nI a ≤ nI b) = (a ≤ b) := propext (nI_leI ha hb)
theorem n_eq {a b : Nat} (ha : a < 2147483648) (hb : b < 2147483648) : (nI a = nI b) = (a = b) := propext (nI_eq ha hb)
theorem n_cl {a : Nat} (h : a < 2147483648) : (nI a).toNatClampNeg = a := nI_clamp h
theorem n_neg (k a : Nat) (hk : 0 < k) (hk2 : k ≤ 2147483648) (ha : a < 2147483648) : ¬ nI a = -nI k := fun h => by
  have h1 : (nI a).toInt = (-nI k).toInt := by rw [h]
  rw [nI_toInt ha, Int32.toInt_neg] at h1
  rcases Nat.lt_or_ge k 2147483648 with hk3 | hk3
  · rw [nI_toInt hk3, Int.bmod_def] at h1
    have h2 : ((-(k : Int)) % ((2 ^ 32 : Nat) : Int)) = 4294967296 - k := by omega
    rw [h2] at h1
    omega
  · have hk4 : k = 2147483648 := by omega
    subst hk4
    have : (-(nI 2147483648).toInt).bmod (2 ^ 32) = -2147483648 := by decide
    rw [this] at h1
    omega
theorem fr_0 : frs 0 = nI 0 := rfl
theorem fr_1 : frs 1 = nI 1 := rfl
theorem fr_2 : frs 2 = nI 9 := rfl
theorem fr_3 : frs 3 = nI 57 := rfl
theorem fr_4 : frs 4 = nI 313 := rfl
theorem fr_5 : frs 5 = nI 1593 := rfl
theorem n_sub {a b : Nat} (h : b ≤ a) : nI a - nI b = nI (a - b) := pk_sub h
theorem n_add (a b : Nat) : nI a + nI b = nI (a + b) := nI_add a b
theorem n_mul (a b : Nat) : nI a * nI b = nI (a * b) := pk_mul a b
theorem z_le {a : Nat} (h : a < 2147483648) : (nI a ≤ 0) = (a = 0) := by
  have := n_le (a := a) (b := 0) h (by decide)
  rw [show (0 : Int32) = nI 0 from rfl, this]
  exact propext Nat.le_zero
theorem z_lt {a : Nat} (h : a < 2147483648) : (nI a < 0) = False := eq_false (nI_pos h)
theorem z_eq {a : Nat} (h : a < 2147483648) : (nI a = 0) = (a = 0) := n_eq (b := 0) h (by decide)
theorem z_gt {a : Nat} (h : a < 2147483648) : (0 < nI a) = (0 < a) := n_lt (a := 0) (by decide) h
theorem z_ge {a : Nat} (h : a < 2147483648) : (0 ≤ nI a) = True := eq_true (nI_pos' h)
theorem m_1 {a : Nat} (h : 0 < a) : nI a + -1 = nI (a - 1) := sb_m1 h
theorem s_l31 : ∀ n, n < 32 → ((nI n &&& 31).toBitVec.smod 32).toNat = n := by decide +kernel
theorem sh_l {a k : Nat} (hk : k < 32) (h : a * 2 ^ k < 4294967296) : nI a <<< (nI k &&& 31) = nI (a * 2 ^ k) := pk_shlN _ k (s_l31 k hk) h
theorem sh_r {a k : Nat} (ha : a < 2147483648) (hk : k < 32) : nI a >>> (nI k &&& 31) = nI (a / 2 ^ k) := pk_shrN ha _ k (s_l31 k hk)
theorem and_m {a m : Nat} (k : Nat) (ha : a < 4294967296) (hk : k ≤ 31) (hm : m + 1 = 2 ^ k) : nI a &&& nI m = nI (a % (m + 1)) := by
  have h2 : 2 ^ k ≤ 2 ^ 31 := Nat.pow_le_pow_right (by decide) hk
  have := pk_andN (n := a) ha (m := nI m) k (by rw [pk_tn (by omega)]; omega)
  rw [this, hm]
theorem or_p {a b : Nat} (k : Nat) (hb : b < 2 ^ k) : nI (a * 2 ^ k) ||| nI b = nI (a * 2 ^ k + b) := by
  have h1 : ∀ x y : Nat, nI x ||| nI y = nI (x ||| y) := fun x y => by
    apply Int32.toBitVec_inj.mp
    rw [Int32.toBitVec_or]
    show BitVec.ofNat 32 x ||| BitVec.ofNat 32 y = BitVec.ofNat 32 (x ||| y)
    apply BitVec.eq_of_toNat_eq
    simp [BitVec.toNat_or, Nat.or_mod_two_pow]
  rw [h1, Nat.mul_comm a, Nat.two_pow_add_eq_or_of_lt hb]
