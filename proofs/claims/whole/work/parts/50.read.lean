/-! macros: what a text tells, and how the class reads it -/
abbrev Stg : Type := Unit ⊕ Unit ⊕ List Mac ⊕ (List Mac × Nat) ⊕ (List Mac × Nat × Nat × List Nat)
abbrev sBeg : Stg := .inl ()
abbrev sMark : Stg := .inr (.inl ())
abbrev sKind (c : List Mac) : Stg := .inr (.inr (.inl c))
abbrev sTim (c : List Mac) (kd : Nat) : Stg := .inr (.inr (.inr (.inl (c, kd))))
abbrev sKeys (c : List Mac) (kd tm : Nat) (ks : List Nat) : Stg := .inr (.inr (.inr (.inr (c, kd, tm, ks))))
/-- the key that a code tells, by how many macros are ahead -/
def kb (m : Nat) (x : Int32) : Option Nat :=
  if x = nI 60 then some 4 else if x = nI 62 then some 5 else if x = nI 104 then some 7 else if x = nI 120 then some 6
  else if ¬ x < nI 97 ∧ x < nI 101 then some (x.toNatClampNeg - 97)
  else if ¬ x < nI 48 ∧ x < nI (48 + m) then some (8 + x.toNatClampNeg - 48) else none
def stp (x : Int32) : Stg → Option Stg
  | .inl () => if x = nI 107 then some sMark else none
  | .inr (.inl ()) => if x = nI 59 then some (sKind []) else none
  | .inr (.inr (.inl c)) => if x = nI 112 then some (sTim c 0) else if x = nI 98 then some (sTim c 1) else if x = nI 101 then some (sTim c 2) else none
  | .inr (.inr (.inr (.inl (c, kd)))) => if x < nI 49 then none else if nI 51 < x then none else some (sKeys c kd (x - nI 48).toNatClampNeg [])
  | .inr (.inr (.inr (.inr (c, kd, tm, ks)))) => match kb c.length x with
    | some k => if ks.length < 4 then some (sKeys c kd tm (ks ++ [k])) else none
    | none => if x = nI 59 ∧ ks.length ≠ 0 ∧ c.length + 1 < 3 then some (sKind (c ++ [(kd, tm, ks)])) else none
/-- all that is left is read: what is left at a fault, or the macros -/
def run : List Int32 → Stg → Nat ⊕ List Mac
  | [], .inr (.inr (.inr (.inr (c, kd, tm, ks)))) => if ks.length ≠ 0 then .inr (c ++ [(kd, tm, ks)]) else .inl 0
  | [], _ => .inl 0
  | x :: xs, s => match stp x s with
    | some s' => run xs s'
    | none => .inl (xs.length + 1)
def okS : Stg → Prop
  | .inl () => True
  | .inr (.inl ()) => True
  | .inr (.inr (.inl c)) => okC c ∧ c.length < 3
  | .inr (.inr (.inr (.inl (c, kd)))) => (okC c ∧ c.length < 3) ∧ kd ≤ 2
  | .inr (.inr (.inr (.inr (c, kd, tm, ks)))) => (okC c ∧ c.length < 3) ∧ kd ≤ 2 ∧ (1 ≤ tm ∧ tm ≤ 3) ∧ ks.length ≤ 4 ∧ ∀ k ∈ ks, k < 8 + c.length
theorem okC_snoc {c : List Mac} {m : Mac} (h : okC c) (hl : c.length < 3) (hm : okM c.length m) : okC (c ++ [m]) := by
  refine ⟨by rw [List.length_append]; show c.length + 1 ≤ 3; omega, fun i x hx => ?_⟩
  by_cases e : i < c.length
  · rw [List.getElem?_append_left e] at hx
    exact h.2 i x hx
  · rw [List.getElem?_append_right (by omega)] at hx
    have hi : i = c.length := by
      rcases Nat.lt_or_ge (i - c.length) 1 with z | z
      · omega
      · rw [List.getElem?_eq_none (by exact z)] at hx; cases hx
    subst hi
    rw [Nat.sub_self] at hx
    have : m = x := Option.some.inj hx
    rw [← this]; exact hm
theorem rng2 {x : Int32} {lo hi : Nat} (hl : lo < 2147483648) (hh : hi < 2147483648) (h1 : ¬ x < nI lo) (h2 : x < nI hi) : ∃ j, lo ≤ j ∧ j < hi ∧ x = nI j := by
  obtain ⟨j, a, b, rfl⟩ := rng hl hh h1 (fun z => i_lt_nle z (by
    have h3 := Int32.lt_iff_toInt_lt.mp h2
    exact Int32.le_iff_toInt_le.mpr (by omega)))
  refine ⟨j, a, ?_, rfl⟩
  rw [n_lt (by omega) hh] at h2
  exact h2
theorem kb_59 {m : Nat} (hm : m < 3) : kb m (nI 59) = none := by
  rcases (show m = 0 ∨ m = 1 ∨ m = 2 by omega) with rfl | rfl | rfl <;> decide
theorem kb_lt {m : Nat} (hm : m < 3) {x : Int32} {k : Nat} (h : kb m x = some k) : k < 8 + m := by
  unfold kb at h
  by_cases h1 : x = nI 60
  · rw [if_pos h1] at h; cases h; omega
  rw [if_neg h1] at h
  by_cases h2 : x = nI 62
  · rw [if_pos h2] at h; cases h; omega
  rw [if_neg h2] at h
  by_cases h3 : x = nI 104
  · rw [if_pos h3] at h; cases h; omega
  rw [if_neg h3] at h
  by_cases h4 : x = nI 120
  · rw [if_pos h4] at h; cases h; omega
  rw [if_neg h4] at h
  by_cases h5 : ¬ x < nI 97 ∧ x < nI 101
  · rw [if_pos h5] at h
    obtain ⟨v, v1, v2, rfl⟩ := rng2 (by decide) (by decide) h5.1 h5.2
    rw [n_cl (by omega)] at h; cases h; omega
  rw [if_neg h5] at h
  by_cases h6 : ¬ x < nI 48 ∧ x < nI (48 + m)
  · rw [if_pos h6] at h
    obtain ⟨v, v1, v2, rfl⟩ := rng2 (by decide) (by omega) h6.1 h6.2
    rw [n_cl (by omega)] at h; cases h; omega
  rw [if_neg h6] at h; cases h
theorem okS_stp {s s' : Stg} {x : Int32} (h : okS s) (e : stp x s = some s') : okS s' := by
  rcases s with u | u | c | ⟨c, kd⟩ | ⟨c, kd, tm, ks⟩
  · -- begin
    unfold stp at e; dsimp only at e
    split at e
    · cases e; trivial
    · cases e
  · -- mark
    unfold stp at e; dsimp only at e
    split at e
    · cases e; exact ⟨⟨Nat.zero_le _, fun i m hm => by cases hm⟩, by decide⟩
    · cases e
  · -- kind c
    unfold stp at e; dsimp only at e
    split at e
    · cases e; exact ⟨h, by decide⟩
    · split at e
      · cases e; exact ⟨h, by decide⟩
      · split at e
        · cases e; exact ⟨h, by decide⟩
        · cases e
  · -- tim c kd
    unfold stp at e; dsimp only at e
    by_cases h1 : x < nI 49
    · rw [if_pos h1] at e; cases e
    · rw [if_neg h1] at e
      by_cases h2 : nI 51 < x
      · rw [if_pos h2] at e; cases e
      · rw [if_neg h2] at e
        obtain ⟨v, v1, v2, rfl⟩ := rng (lo := 49) (hi := 51) (by decide) (by decide) h1 h2
        rw [n_sub (by omega), n_cl (by omega)] at e
        cases e
        exact ⟨h.1, h.2, by omega, Nat.zero_le _, fun k hk => absurd hk List.not_mem_nil⟩
  · -- keys c kd tm ks
    obtain ⟨h1, h2, h3, h4, h5⟩ := h
    unfold stp at e; dsimp only at e
    cases hk : kb c.length x with
    | some k =>
      rw [hk] at e; dsimp only at e
      split at e
      · cases e
        refine ⟨h1, h2, h3, by rw [List.length_append]; show ks.length + 1 ≤ 4; omega, fun y hy => ?_⟩
        rcases List.mem_append.mp hy with z | z
        · exact h5 y z
        · rw [List.mem_singleton.mp z]; exact kb_lt h1.2 hk
      · cases e
    | none =>
      rw [hk] at e; dsimp only at e
      split at e
      · rename_i h6
        cases e
        refine ⟨okC_snoc h1.1 h1.2 ⟨h2, h3.1, h3.2, ?_, h4, h5⟩, by rw [List.length_append]; exact h6.2.2⟩
        show 1 ≤ ks.length
        have := h6.2.1
        omega
      · cases e
theorem run_ok : ∀ {xs : List Int32} {s : Stg} {c : List Mac}, okS s → run xs s = .inr c → okC c
  | [], .inl (), c, _, e => by cases e
  | [], .inr (.inl ()), c, _, e => by cases e
  | [], .inr (.inr (.inl _)), c, _, e => by cases e
  | [], .inr (.inr (.inr (.inl _))), c, _, e => by cases e
  | [], .inr (.inr (.inr (.inr (c, kd, tm, ks)))), c', ⟨h1, h2, h3, h4, h5⟩, e => by
    unfold run at e
    split at e
    · cases e
      exact okC_snoc h1.1 h1.2 ⟨h2, h3.1, h3.2, by show 1 ≤ ks.length; omega, h4, h5⟩
    · cases e
  | x :: xs, s, c, h, e => by
    unfold run at e
    cases hs : stp x s with
    | some s' => rw [hs] at e; exact run_ok (okS_stp h hs) e
    | none => rw [hs] at e; cases e
theorem run_le : ∀ {xs : List Int32} {s : Stg} {r : Nat}, run xs s = .inl r → r ≤ xs.length
  | [], .inl (), r, e => by cases e; exact Nat.le_refl _
  | [], .inr (.inl ()), r, e => by cases e; exact Nat.le_refl _
  | [], .inr (.inr (.inl _)), r, e => by cases e; exact Nat.le_refl _
  | [], .inr (.inr (.inr (.inl _))), r, e => by cases e; exact Nat.le_refl _
  | [], .inr (.inr (.inr (.inr (c, kd, tm, ks)))), r, e => by
    unfold run at e
    split at e
    · cases e
    · cases e; exact Nat.le_refl _
  | x :: xs, s, r, e => by
    unfold run at e
    cases hs : stp x s with
    | some s' => rw [hs] at e; have := run_le e; rw [List.length_cons]; omega
    | none => rw [hs] at e; cases e; exact Nat.le_refl _
/-! the class -/
def MacR (S : St) (e : Nat) (m : Mac) : Prop := S (20 + (3 + e)) 0 = nI m.1 ∧ S (20 + (3 + e)) 1 = nI m.2.1 ∧ S (20 + (3 + e)) 2 = nI m.2.2.length ∧ ∀ j k, m.2.2[j]? = some k → S (26 + (3 + e)) j = nI k
def RdCs (S : St) (c : List Mac) : Prop := ∀ e m, c[e]? = some m → MacR S e m
def CR (S : St) : Stg → Prop
  | .inl () => S 4 3 = nI 0 ∧ S 4 1 = nI 0
  | .inr (.inl ()) => S 4 3 = nI 1 ∧ S 4 1 = nI 0
  | .inr (.inr (.inl c)) => S 4 3 = nI 2 ∧ S 4 1 = nI (c.length + 1) ∧ S 4 2 = nI c.length ∧ RdCs S c ∧ S (20 + (3 + c.length)) 2 = nI 0
  | .inr (.inr (.inr (.inl (c, kd)))) => S 4 3 = nI 3 ∧ S 4 1 = nI (c.length + 1) ∧ S 4 2 = nI c.length ∧ RdCs S c ∧ S (20 + (3 + c.length)) 2 = nI 0 ∧ S (20 + (3 + c.length)) 0 = nI kd
  | .inr (.inr (.inr (.inr (c, kd, tm, ks)))) => S 4 3 = nI 4 ∧ S 4 1 = nI (c.length + 1) ∧ S 4 2 = nI c.length ∧ RdCs S c ∧ MacR S c.length (kd, tm, ks)
def frE (S S' : St) : Prop := ∀ k, k ≠ 4 → ¬ (23 ≤ k ∧ k < 26) → ¬ (29 ≤ k ∧ k < 32) → S' k = S k
theorem frE.rf (S : St) : frE S S := fun _ _ _ _ => rfl
theorem frE.tr {S T U : St} (h : frE S T) (g : frE T U) : frE S U := fun k a b c => (g k a b c).trans (h k a b c)
theorem frE.st {q : Nat} (hq : q = 4 ∨ (23 ≤ q ∧ q < 26) ∨ (29 ≤ q ∧ q < 32)) (S : St) (x : Nat) (v : Int32) : frE S (st S q x v) := fun k a b c => st_ne (by omega)
theorem MacR.ne {S S' : St} {e : Nat} {m : Mac} (h : MacR S e m) (h1 : S' (20 + (3 + e)) = S (20 + (3 + e))) (h2 : S' (26 + (3 + e)) = S (26 + (3 + e))) : MacR S' e m := by unfold MacR; rw [h1, h2]; exact h
theorem marks_no (N : Nat) (S : St) {x : Int32} (hx : ¬ x = nI 59) : f_X3_marks N S x = some (nI 0, S) := by rw [f_X3_marks, if_neg hx]
theorem marks_full (N : Nat) {S : St} (x : Int32) (h : S 4 1 = nI 3) : f_X3_marks N S x = some (nI 0, S) := by
  rw [f_X3_marks, h]
  by_cases hx : x = nI 59
  · rw [if_pos hx, if_neg (by decide)]
  · rw [if_neg hx]
theorem marks_ok (N : Nat) {S : St} {c : List Mac} (hl : c.length < 3) (h1 : S 4 1 = nI c.length) (hR : RdCs S c) : ∃ S', f_X3_marks N S (nI 59) = some (nI 1, S') ∧ CR S' (sKind c) ∧ frE S S' := by
  refine ⟨st (st (st (st S 4 2 (nI c.length)) (20 + (3 + c.length)) 2 (nI 0)) 4 1 (nI (c.length + 1))) 4 3 (nI 2), ?_, ⟨st_s, ?_, ?_, fun e m hm => ?_, ?_⟩, (((frE.st (by omega) _ _ _).tr (frE.st (by omega) _ _ _)).tr (frE.st (by omega) _ _ _)).tr (frE.st (by omega) _ _ _)⟩
  · rw [f_X3_marks, if_pos rfl, h1, if_pos (nI_lt hl (by omega)), if_pos ((inb_i (by omega)).mpr hl), bnd_e, st_s, n_cl (by omega), if_pos hl, bnd_e, st_ne (a := 4) (by omega), st_n (c := 1) (by decide), h1, n_add, bnd_e, bnd_e]
  · rw [st_n (by decide), st_s]
  · rw [st_n (by decide), st_n (by decide), st_ne (by omega), st_s]
  · have he := mac_lt hm
    exact (hR e m hm).ne (by rw [st_ne (by omega), st_ne (by omega), st_ne (by omega), st_ne (by omega)]) (by rw [st_ne (by omega), st_ne (by omega), st_ne (by omega), st_ne (by omega)])
  · rw [st_ne (by omega), st_ne (by omega), st_s]
theorem keyOf_ok (N : Nat) {S : St} {m : Nat} (hm : m < 3) (h : S 4 1 = nI (m + 1)) (x : Int32) : f_X3_keyOf N S x = some (match kb m x with | some k => nI k | none => (-9 : Int32), S) := by
  have h71 : f_X3_keyOf_71 N S x = some (match (if ¬ x < nI 48 ∧ x < nI (48 + m) then some (8 + x.toNatClampNeg - 48) else none : Option Nat) with | some k => nI k | none => (-9 : Int32), S) := by
    rw [f_X3_keyOf_71, h, n_add, n_sub (by omega), show 48 + (m + 1) - 1 = 48 + m by omega]
    by_cases c1 : x < nI 48
    · rw [if_pos c1, if_neg (fun z => z.1 c1), f_X3_keyOf_95, if_pos nI_0]
    · rw [if_neg c1]
      by_cases c2 : x < nI (48 + m)
      · rw [if_neg (i_lt_nle c2), if_pos ⟨c1, c2⟩, f_X3_keyOf_95, if_neg (by decide)]
        obtain ⟨v, v1, v2, rfl⟩ := rng2 (by decide) (by omega) c1 c2
        rw [n_cl (by omega), n_add, n_sub (by omega)]
      · rw [if_pos (i_nlt c2), if_neg (fun z => c2 z.2), f_X3_keyOf_95, if_pos nI_0]
  rw [f_X3_keyOf, bnd_e]
  unfold kb
  by_cases h1 : x = nI 60
  · rw [if_pos h1, if_pos h1]
  rw [if_neg h1, if_neg h1]
  by_cases h2 : x = nI 62
  · rw [if_pos h2, if_pos h2]
  rw [if_neg h2, if_neg h2]
  by_cases h3 : x = nI 104
  · rw [if_pos h3, if_pos h3]
  rw [if_neg h3, if_neg h3]
  by_cases h4 : x = nI 120
  · rw [if_pos h4, if_pos h4]
  rw [if_neg h4, if_neg h4]
  by_cases h5 : x < nI 97
  · rw [if_pos h5, if_neg (fun z => z.1 h5), h71]
  · rw [if_neg h5]
    by_cases h6 : x < nI 101
    · rw [if_neg (i_lt_nle h6), if_pos ⟨h5, h6⟩]
      obtain ⟨v, v1, v2, rfl⟩ := rng2 (by decide) (by decide) h5 h6
      rw [n_cl (by omega), n_sub (by omega)]
    · rw [if_pos (i_nlt h6), if_neg (fun z => h6 z.2), h71]
