/-! WHAT A STATE MEANS: macros, line, presses, trace, fault, readings, sheets; and how class and reference hold it -/
abbrev Shs : Type := Nat → Option (Nat × Nat × (Nat → Int32))
abbrev Ab : Type := List Mac × Ln × Int32 × Int32 × Int32 × List (Nat × Nat) × Shs
def okA (a : Ab) : Prop := okC a.1 ∧ okL a.2.1 ∧ (a.2.2.2.2.2.1.length ≤ 8 ∧ ∀ q ∈ a.2.2.2.2.2.1, q.1 < a.1.length ∧ q.2 ≤ 5) ∧ ∀ j x, a.2.2.2.2.2.2 j = some x → x.1 ≤ 2 ∧ x.2.1 ≤ 60
def RdC (S : St) (rd : List (Nat × Nat)) : Prop := S 0 6 = nI rd.length ∧ ∀ r q, rd[r]? = some q → S 10 r = nI q.1 ∧ S 11 r = nI q.2
def ShC (S : St) (sh : Shs) : Prop := ∀ j, j < 4 → (sh j = none → S (12 + j) 0 = -1) ∧ ∀ x, sh j = some x → S (12 + j) 0 = nI x.1 ∧ S (12 + j) 1 = nI x.2.1 ∧ ∀ i, i < 60 → S (16 + j) i = x.2.2 i
def RC (S : St) (a : Ab) : Prop := okA a ∧ KC S a.1 ∧ S 0 7 = nI (cn a.2.1) ∧ S 0 8 = a.2.2.1 ∧ S 0 9 = a.2.2.2.1 ∧ S 0 10 = a.2.2.2.2.1 ∧ RdC S a.2.2.2.2.2.1 ∧ ShC S a.2.2.2.2.2.2 ∧ (S 4 2).toNatClampNeg < 3
def RdM (S : St) (rd : List (Nat × Nat)) : Prop := S 32 32 = nI rd.length ∧ ∀ r q, rd[r]? = some q → S 52 r = nI q.1 ∧ S 53 r = nI q.2
def ShM (S : St) (sh : Shs) : Prop := ∀ j, j < 4 → (sh j = none → S 33 j = -9) ∧ ∀ x, sh j = some x → S 33 j = nI x.1 ∧ S 34 j = nI x.2.1 ∧ ∀ i, i < 60 → S 35 (60 * j + i) = x.2.2 i
def mkP (S : St) : Prop := ∀ key l, key < 8 → okL l → S 49 (7737 * key + rn l) = nI (rn (act key l))
def mkM (S : St) (c : List Mac) : Prop := ∀ i l, i < c.length → okL l → S 49 (7737 * (8 + i) + rn l) = nI (rn (ef c i l).1)
def Mks (S : St) (c : List Mac) : Prop := (S 32 28 = nI 0 ∨ S 32 28 = nI 1 ∧ mkP S) ∧ (S 32 27 = nI 0 ∨ S 32 27 = nI 1 ∧ S 32 28 = nI 1 ∧ mkM S c)
def RM (S : St) (a : Ab) : Prop := okA a ∧ CfM S a.1 ∧ S 32 7 = nI (rn a.2.1) ∧ S 32 6 = a.2.2.1 ∧ S 32 1 = a.2.2.2.1 ∧ S 32 0 = a.2.2.2.2.1 ∧ RdM S a.2.2.2.2.2.1 ∧ ShM S a.2.2.2.2.2.2 ∧ Mks S a.1
def frC (S S' : St) : Prop := ∀ k, 32 ≤ k → S' k = S k
def frM (S S' : St) : Prop := ∀ k, k < 32 → S' k = S k
theorem KC.eq {S S' : St} {c : List Mac} (h : KC S c) (h1 : S' 1 = S 1) (h3 : S' 3 = S 3) (hm : ∀ i, i < 3 → S' (20 + i) = S (20 + i) ∧ S' (26 + i) = S (26 + i)) : KC S' c := by
  refine ⟨h.1, ⟨by rw [h1]; exact h.2.1.1, fun i m hi => ?_⟩, fun i x hi hx => by rw [h3]; exact h.2.2 i x hi hx⟩
  have := (List.getElem?_eq_some_iff.mp hi).1
  have := h.1.1
  obtain ⟨e1, e2⟩ := hm i (by omega)
  rw [e1, e2]
  exact h.2.1.2 i m hi
/-- the object's own numbers anew, all else of the class kept -/
theorem RC.re {S S' : St} {a : Ab} (h : RC S a) (hf : ∀ k, k < 32 → k ≠ 0 → S' k = S k) (h6 : S' 0 6 = S 0 6) {l : Ln} (hl : okL l) {pr tr fl : Int32} (h7 : S' 0 7 = nI (cn l)) (h8 : S' 0 8 = pr) (h9 : S' 0 9 = tr) (h10 : S' 0 10 = fl) : RC S' (a.1, l, pr, tr, fl, a.2.2.2.2.2.1, a.2.2.2.2.2.2) := by
  obtain ⟨k0, k1, k2, k3, k4, k5, k6, k7, k8⟩ := h
  refine ⟨⟨k0.1, hl, k0.2.2⟩, k1.eq (hf 1 (by decide) (by decide)) (hf 3 (by decide) (by decide)) (fun i hi => ⟨hf _ (by omega) (by omega), hf _ (by omega) (by omega)⟩), h7, h8, h9, h10, ⟨h6.trans k6.1, fun r q hq => ?_⟩, fun j hj => ?_, ?_⟩
  · rw [hf 10 (by decide) (by decide), hf 11 (by decide) (by decide)]
    exact k6.2 r q hq
  · rw [hf (12 + j) (by omega) (by omega), hf (16 + j) (by omega) (by omega)]
    exact k7 j hj
  · rw [hf 4 (by decide) (by decide)]
    exact k8
theorem RC.of3 {S S' : St} {a : Ab} (h : RC S a) (hK : KC S' a.1) (hf : fr3 S S') : RC S' a := by
  obtain ⟨k0, k1, k2, k3, k4, k5, k6, k7, k8⟩ := h
  refine ⟨k0, hK, by rw [hf 0 (by decide)]; exact k2, by rw [hf 0 (by decide)]; exact k3, by rw [hf 0 (by decide)]; exact k4, by rw [hf 0 (by decide)]; exact k5, ⟨by rw [hf 0 (by decide)]; exact k6.1, fun r q hq => ?_⟩, fun j hj => ?_, by rw [hf 4 (by decide)]; exact k8⟩
  · rw [hf 10 (by decide), hf 11 (by decide)]; exact k6.2 r q hq
  · rw [hf (12 + j) (by omega), hf (16 + j) (by omega)]; exact k7 j hj
theorem RC.fr {S S' : St} {a : Ab} (h : RC S a) (hf : frM S S') : RC S' a := by
  have h0 := hf 0 (by decide)
  have := h.re (fun k hk _ => hf k hk) (by rw [h0]) h.1.2.1 (h0 ▸ h.2.2.1) (h0 ▸ h.2.2.2.1) (h0 ▸ h.2.2.2.2.1) (h0 ▸ h.2.2.2.2.2.1)
  exact this
/-- the reference's own numbers anew, all else that matters kept -/
theorem RM.re {S S' : St} {a : Ab} (h : RM S a) (hf : ∀ k, (33 ≤ k ∧ k ≤ 39) ∨ k = 49 ∨ k = 52 ∨ k = 53 → S' k = S k) (hs : S' 32 5 = S 32 5 ∧ S' 32 27 = S 32 27 ∧ S' 32 28 = S 32 28 ∧ S' 32 32 = S 32 32) {l : Ln} (hl : okL l) {pr tr fl : Int32} (h7 : S' 32 7 = nI (rn l)) (h8 : S' 32 6 = pr) (h9 : S' 32 1 = tr) (h10 : S' 32 0 = fl) : RM S' (a.1, l, pr, tr, fl, a.2.2.2.2.2.1, a.2.2.2.2.2.2) := by
  obtain ⟨k0, k1, k2, k3, k4, k5, k6, k7, k8⟩ := h
  obtain ⟨s1, s2, s3, s4⟩ := hs
  refine ⟨⟨k0.1, hl, k0.2.2⟩, ⟨s1.trans k1.1, fun i m hm => ?_⟩, h7, h8, h9, h10, ⟨s4.trans k6.1, fun r q hq => ?_⟩, fun j hj => ?_, ?_⟩
  · rw [hf 36 (by omega), hf 37 (by omega), hf 38 (by omega), hf 39 (by omega)]
    exact k1.2 i m hm
  · rw [hf 52 (by omega), hf 53 (by omega)]
    exact k6.2 r q hq
  · rw [hf 33 (by omega), hf 34 (by omega), hf 35 (by omega)]
    exact k7 j hj
  · unfold Mks mkP mkM
    rw [s2, s3, hf 49 (by omega)]
    exact k8
theorem RM.fr {S S' : St} {a : Ab} (h : RM S a) (hf : frC S S') : RM S' a := by
  have h0 := hf 32 (by decide)
  have := h.re (S' := S') (fun k hk => hf k (by omega)) (by rw [h0]; exact ⟨rfl, rfl, rfl, rfl⟩) h.1.2.1 (h0 ▸ h.2.2.1) (h0 ▸ h.2.2.2.1) (h0 ▸ h.2.2.2.2.1) (h0 ▸ h.2.2.2.2.2.1)
  exact this
/-- both answer alike, and both hold the same meaning then -/
def Both {α : Type} (fC fM : St → Option (α × St)) : Prop := ∀ S a, RC S a → RM S a → ∃ r S1 S2 a', fC S = some (r, S1) ∧ fM S1 = some (r, S2) ∧ RC S2 a' ∧ RM S2 a'
theorem Both.of {α : Type} {fC fM : St → Option (α × St)} (h : ∀ a, okA a → ∃ r a', (∀ S, RC S a → ∃ S1, fC S = some (r, S1) ∧ RC S1 a' ∧ frC S S1) ∧ ∀ S, RM S a → ∃ S2, fM S = some (r, S2) ∧ RM S2 a' ∧ frM S S2) : Both fC fM := by
  intro S a hC hM
  obtain ⟨r, a', h1, h2⟩ := h a hC.1
  obtain ⟨S1, b1, b2, b3⟩ := h1 S hC
  obtain ⟨S2, c1, c2, c3⟩ := h2 S1 (hM.fr b3)
  exact ⟨r, S1, S2, a', b1, c1, b2.fr c3, c2⟩
/-- a number told is a macro, or not -/
theorem is_mac (c : List Mac) (hc : okC c) (x : Int32) : (x < 0 ∨ nI c.length ≤ x) ∨ ∃ i m, x = nI i ∧ c[i]? = some m := by
  have := hc.1
  rcases pk_ix x (n := c.length) (by omega) with h | h | ⟨j, h1, h2⟩
  · exact Or.inl (Or.inl h)
  · exact Or.inl (Or.inr h)
  · exact Or.inr ⟨j, c[j], h2, List.getElem?_eq_getElem h1⟩
theorem mac_lt {c : List Mac} {i : Nat} {m : Mac} (h : c[i]? = some m) : i < c.length := (List.getElem?_eq_some_iff.mp h).1
theorem isMacro_no (N : Nat) {S : St} {c : List Mac} (h : CfM S c) (x : Int32) (hx : x < 0 ∨ nI c.length ≤ x) : f_X7_isMacro N S x = some (nI 0, S) := by
  rw [f_X7_isMacro, h.1]
  by_cases c1 : x < 0
  · rw [if_pos c1]
  · rw [if_neg c1, if_pos (hx.resolve_left c1)]
theorem isMacro_ok (N : Nat) {S : St} {c : List Mac} (hc : okC c) (h : CfM S c) {i : Nat} (hi : i < c.length) : f_X7_isMacro N S (nI i) = some (nI 1, S) := by
  have := hc.1
  rw [f_X7_isMacro, h.1, if_neg (nI_pos (by omega)), if_neg (nI_ge hi (by omega))]
theorem within_no (N : Nat) (S : St) {x lo hi : Int32} (h : x < lo ∨ hi < x) : f_X7_within N S x lo hi = some (nI 0, S) := by
  rw [f_X7_within]
  by_cases c1 : x < lo
  · rw [if_pos c1]
  · rw [if_neg c1, if_pos (h.resolve_left c1)]
theorem within_ok (N : Nat) (S : St) {x lo hi : Int32} (h1 : ¬ x < lo) (h2 : ¬ hi < x) : f_X7_within N S x lo hi = some (nI 1, S) := by
  rw [f_X7_within, if_neg h1, if_neg h2]
theorem within_in (N : Nat) (S : St) {j lo hi : Nat} (h1 : lo ≤ j) (h2 : j ≤ hi) (hh : hi < 2147483648) : f_X7_within N S (nI j) (nI lo) (nI hi) = some (nI 1, S) := within_ok N S (nI_nlt h1 (by omega)) (nI_nlt h2 hh)
theorem i_tri (x y : Int32) : x < y ∨ y ≤ x := by
  rcases Int.lt_or_le x.toInt y.toInt with h | h
  · exact Or.inl (Int32.lt_iff_toInt_lt.mpr h)
  · exact Or.inr (Int32.le_iff_toInt_le.mpr h)
theorem i_nlt {x y : Int32} (h : ¬ x < y) : y ≤ x := (i_tri x y).resolve_left h
theorem i_nle {x y : Int32} (h : ¬ x ≤ y) : y < x := (i_tri y x).resolve_right h
theorem i_lt_nle {x y : Int32} (h : x < y) : ¬ y ≤ x := fun z => by
  have h1 := Int32.lt_iff_toInt_lt.mp h
  have h2 := Int32.le_iff_toInt_le.mp z
  omega
theorem i_le_nlt {x y : Int32} (h : x ≤ y) : ¬ y < x := fun z => i_lt_nle z h
/-- a number between two -/
theorem rng {x : Int32} {lo hi : Nat} (hl : lo < 2147483648) (hh : hi < 2147483648) (h1 : ¬ x < nI lo) (h2 : ¬ nI hi < x) : ∃ j, lo ≤ j ∧ j ≤ hi ∧ x = nI j := by
  have a1 := Int32.le_iff_toInt_le.mp (i_nlt h2)
  rw [nI_toInt hh] at a1
  have a2 := Int32.le_iff_toInt_le.mp (i_nlt h1)
  rw [nI_toInt hl] at a2
  have h0 : ¬ x < 0 := fun z => by
    have := Int32.lt_iff_toInt_lt.mp z
    have e0 : (0 : Int32).toInt = 0 := rfl
    omega
  obtain ⟨j, j1, rfl⟩ := nI_of h0
  rw [nI_toInt (by omega)] at a1 a2
  exact ⟨j, by omega, by omega, rfl⟩
