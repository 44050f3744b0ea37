/-! the reference reads a text -/
def frG (S S' : St) : Prop := (∀ k, k ≠ 32 → k ≠ 40 → k ≠ 41 → k ≠ 42 → k ≠ 43 → S' k = S k) ∧ ∀ j, j ≠ 12 → j ≠ 13 → S' 32 j = S 32 j
theorem frG.rf (S : St) : frG S S := ⟨fun _ _ _ _ _ _ => rfl, fun _ _ _ => rfl⟩
theorem frG.tr {S T U : St} (h : frG S T) (g : frG T U) : frG S U := ⟨fun k a b c d e => (g.1 k a b c d e).trans (h.1 k a b c d e), fun j a b => (g.2 j a b).trans (h.2 j a b)⟩
theorem frG.c4 {q : Nat} (hq : q = 40 ∨ q = 41 ∨ q = 42 ∨ q = 43) (S : St) (x : Nat) (v : Int32) : frG S (st S q x v) := ⟨fun k _ a b c d => st_ne (by omega), fun j _ _ => by rw [st_ne (by omega)]⟩
theorem frG.s12 (S : St) (v : Int32) : frG S (st S 32 12 v) := ⟨fun k a _ _ _ _ => st_ne a, fun j a _ => st_n a⟩
theorem frG.s13 (S : St) (v : Int32) : frG S (st S 32 13 v) := ⟨fun k a _ _ _ _ => st_ne a, fun j _ a => st_n a⟩
def MacM (S : St) (e : Nat) (m : Mac) : Prop := S 40 e = nI m.1 ∧ S 41 e = nI m.2.1 ∧ S 42 e = nI m.2.2.length ∧ ∀ j k, m.2.2[j]? = some k → S 43 (4 * e + j) = nI k
def RdMs (S : St) (c : List Mac) : Prop := ∀ e m, c[e]? = some m → MacM S e m
theorem MacM.ne {S S' : St} {e : Nat} {m : Mac} (h : MacM S e m) (hm : m.2.2.length ≤ 4) (h0 : S' 40 e = S 40 e) (h1 : S' 41 e = S 41 e) (h2 : S' 42 e = S 42 e) (h3 : ∀ j, j < 4 → S' 43 (4 * e + j) = S 43 (4 * e + j)) : MacM S' e m := ⟨h0.trans h.1, h1.trans h.2.1, h2.trans h.2.2.1, fun j k hk => (h3 j (by have := (List.getElem?_eq_some_iff.mp hk).1; omega)).trans (h.2.2.2 j k hk)⟩
theorem RdMs_snoc {S : St} {c : List Mac} {m : Mac} (h : RdMs S c) (hm : MacM S c.length m) : RdMs S (c ++ [m]) := by
  intro e x hx
  by_cases ee : e < c.length
  · rw [List.getElem?_append_left ee] at hx
    exact h e x hx
  · rw [List.getElem?_append_right (by omega)] at hx
    have he : e = c.length := by
      rcases Nat.lt_or_ge (e - c.length) 1 with z | z
      · omega
      · rw [List.getElem?_eq_none (by exact z)] at hx; cases hx
    subst he
    rw [Nat.sub_self] at hx
    have : m = x := Option.some.inj hx
    rw [← this]; exact hm
theorem keyBy_ok (N : Nat) (S : St) {m : Nat} (hm : m < 3) (x : Int32) : f_X7_keyBy N S x (nI m) = some (match kb m x with | some k => nI k | none => (-9 : Int32), S) := by
  rw [f_X7_keyBy, n_add]
  unfold kb
  by_cases h5 : x < nI 97 ∨ nI 100 < x
  · have h5' : ¬ (¬ x < nI 97 ∧ x < nI 101) := fun z => by
      obtain ⟨v, v1, v2, rfl⟩ := rng2 (by decide) (by decide) z.1 z.2
      rcases h5 with w | w
      · exact z.1 w
      · rw [n_lt (by omega) (by omega)] at w; omega
    rw [within_no N S h5, cal_s, if_pos nI_0]
    by_cases h6 : x < nI 48 ∨ nI (47 + m) < x
    · have h6' : ¬ (¬ x < nI 48 ∧ x < nI (48 + m)) := fun z => by
        obtain ⟨v, v1, v2, rfl⟩ := rng2 (by decide) (by omega) z.1 z.2
        rcases h6 with w | w
        · exact z.1 w
        · rw [n_lt (by omega) (by omega)] at w; omega
      rw [within_no N S h6, cal_s, if_pos nI_0]
      by_cases h1 : x = nI 60
      · rw [if_pos h1, if_pos h1]
      rw [if_neg h1, if_neg h1]
      by_cases h2 : x = nI 62
      · rw [if_pos h2, if_pos h2]
      rw [if_neg h2, if_neg h2]
      by_cases h3 : x = nI 120
      · rw [if_pos h3, if_neg (by rw [h3]; decide), if_pos h3]
      rw [if_neg h3]
      by_cases h4 : x = nI 104
      · rw [if_pos h4, if_pos h4]
      rw [if_neg h4, if_neg h4, if_neg h3, if_neg h5', if_neg h6']
    · obtain ⟨v, v1, v2, rfl⟩ := rng (lo := 48) (hi := 47 + m) (by decide) (by omega) (fun w => h6 (Or.inl w)) (fun w => h6 (Or.inr w))
      rw [within_in N S v1 v2 (by omega), cal_s, if_neg (by decide), if_neg (by rw [n_eq (by omega) (by omega)]; omega), if_neg (by rw [n_eq (by omega) (by omega)]; omega), if_neg (by rw [n_eq (by omega) (by omega)]; omega), if_neg (by rw [n_eq (by omega) (by omega)]; omega), if_neg h5', if_pos ⟨nI_nlt v1 (by omega), nI_lt (by omega) (by omega)⟩, n_sub v1, n_add, n_cl (by omega), show v - 48 + 8 = 8 + v - 48 by omega]
  · obtain ⟨v, v1, v2, rfl⟩ := rng (lo := 97) (hi := 100) (by decide) (by omega) (fun w => h5 (Or.inl w)) (fun w => h5 (Or.inr w))
    rw [within_in N S v1 v2 (by omega), cal_s, if_neg (by decide), if_neg (by rw [n_eq (by omega) (by omega)]; omega), if_neg (by rw [n_eq (by omega) (by omega)]; omega), if_neg (by rw [n_eq (by omega) (by omega)]; omega), if_neg (by rw [n_eq (by omega) (by omega)]; omega), if_pos ⟨nI_nlt v1 (by omega), nI_lt (by omega) (by omega)⟩, n_sub v1, n_cl (by omega)]
theorem run_s {x : Int32} {xs : List Int32} {s s' : Stg} (h : stp x s = some s') : run (x :: xs) s = run xs s' := by
  conv => lhs; unfold run
  rw [h]
theorem run_n {x : Int32} {xs : List Int32} {s : Stg} (h : stp x s = none) : run (x :: xs) s = .inl (xs.length + 1) := by
  unfold run
  rw [h]
theorem stp_keys (x : Int32) (c : List Mac) (kd tm : Nat) (ks : List Nat) : stp x (sKeys c kd tm ks) = (match kb c.length x with | some k => if ks.length < 4 then some (sKeys c kd tm (ks ++ [k])) else none | none => if x = nI 59 ∧ ks.length ≠ 0 ∧ c.length + 1 < 3 then some (sKind (c ++ [(kd, tm, ks)])) else none) := rfl
/-- where the keys of a macro end -/
def Stop (c : List Mac) (ks : List Nat) (ys : List Int32) : Prop := ks.length = 4 ∨ ys = [] ∨ ∃ y t, ys = y :: t ∧ kb c.length y = none
theorem keysM {N : Nat} {c : List Mac} {kd tm e : Nat} (he : e ≤ 240) : ∀ (xs : List Int32) (ks : List Nat) (g : Nat) (S : St), xs.length < g → okS (sKeys c kd tm ks) → RdMs S c → MacM S c.length (kd, tm, ks) → S 32 12 = nI (e - xs.length) → AtC S 35 e xs → ∃ S' ys ks', f_X7_readMacro_147 N g S (nI e) (nI c.length) = some (nI (b01 (decide (ks'.length ≠ 0))), S') ∧ run xs (sKeys c kd tm ks) = run ys (sKeys c kd tm ks') ∧ Stop c ks' ys ∧ okS (sKeys c kd tm ks') ∧ RdMs S' c ∧ MacM S' c.length (kd, tm, ks') ∧ S' 32 12 = nI (e - ys.length) ∧ AtC S' 35 e ys ∧ frG S S' ∧ S' 32 13 = S 32 13 := by
  intro xs
  induction xs with
  | nil =>
    intro ks g S hg hs hR hm h12 hA
    obtain ⟨g, rfl⟩ : ∃ e, g = e + 1 := ⟨g - 1, by omega⟩
    have hcl : c.length < 3 := hs.1.2
    have hin : inb (nI c.length) 3 = true := (inb_i (by omega)).mpr hcl
    have h42 : S 42 c.length = nI ks.length := hm.2.2.1
    have h4 : ks.length ≤ 4 := hs.2.2.2.1
    have h234 : f_X7_readMacro_234 N S (nI c.length) = some (nI (b01 (decide (ks.length ≠ 0))), S) := by
      rw [f_X7_readMacro_234, if_pos hin, n_cl (by omega), h42]
      by_cases e : ks.length = 0
      · rw [if_pos (by rw [z_le (by omega)]; exact e), decide_eq_false (fun z => z e)]; rfl
      · rw [if_neg (by rw [z_le (by omega)]; exact e), decide_eq_true e]; rfl
    refine ⟨S, [], ks, ?_, rfl, Or.inr (Or.inl rfl), hs, hR, hm, h12, hA, frG.rf S, rfl⟩
    rw [f_X7_readMacro_147, if_pos hin, h12, List.length_nil, Nat.sub_zero, if_pos (nI_le (Nat.le_refl _) (by omega)), h234]
    split <;> rfl
  | cons x xs ih =>
    intro ks g S hg hs hR hm h12 hA
    obtain ⟨g, rfl⟩ : ∃ e, g = e + 1 := ⟨g - 1, by omega⟩
    have hcl : c.length < 3 := hs.1.2
    have hin : inb (nI c.length) 3 = true := (inb_i (by omega)).mpr hcl
    have h42 : S 42 c.length = nI ks.length := hm.2.2.1
    have h4 : ks.length ≤ 4 := hs.2.2.2.1
    have h234 : f_X7_readMacro_234 N S (nI c.length) = some (nI (b01 (decide (ks.length ≠ 0))), S) := by
      rw [f_X7_readMacro_234, if_pos hin, n_cl (by omega), h42]
      by_cases e : ks.length = 0
      · rw [if_pos (by rw [z_le (by omega)]; exact e), decide_eq_false (fun z => z e)]; rfl
      · rw [if_neg (by rw [z_le (by omega)]; exact e), decide_eq_true e]; rfl
    obtain ⟨a1, a2⟩ := hA.tail
    have hle := hA.1
    rw [List.length_cons] at h12 hg hle
    rw [f_X7_readMacro_147, if_pos hin, n_cl (a := c.length) (by omega), h42]
    by_cases e4 : ks.length = 4
    · refine ⟨S, x :: xs, ks, ?_, rfl, Or.inl e4, hs, hR, hm, by rw [List.length_cons]; exact h12, hA, frG.rf S, rfl⟩
      rw [if_pos (nI_le (by omega) (by omega)), h234]
    · have hin2 : inb (nI (e - (xs.length + 1))) 240 = true := (inb_i (by omega)).mpr (by omega)
      rw [if_neg (nI_ge (by omega) (by omega)), h12, if_neg (nI_ge (by omega) (by omega)), if_pos hin2, n_cl (a := e - (xs.length + 1)) (by omega), a1, keyBy_ok N S hcl x, cal_s]
      cases hk : kb c.length x with
      | none =>
        dsimp only
        refine ⟨S, x :: xs, ks, ?_, rfl, Or.inr (Or.inr ⟨x, xs, rfl, hk⟩), hs, hR, hm, by rw [List.length_cons]; exact h12, hA, frG.rf S, rfl⟩
        rw [if_pos rfl, h234]
      | some k =>
        dsimp only
        have hk8 := kb_lt hcl hk
        have hst : stp x (sKeys c kd tm ks) = some (sKeys c kd tm (ks ++ [k])) := by
          rw [stp_keys, hk]
          dsimp only
          rw [if_pos (by omega)]
        rw [if_neg (n_9 (a := k) (by omega)), if_pos hin, h12, if_pos hin2, n_cl (a := e - (xs.length + 1)) (by omega), a1, keyBy_ok N S hcl x, hk, cal_s, h42, n_mul, n_add, if_pos ((inb_i (by omega)).mpr (by omega)), n_cl (a := 4 * c.length + ks.length) (by omega), bnd_e, if_pos hin, if_pos hin, st_ne (a := 42) (by decide), h42, n_add, bnd_e, st_ne (a := 32) (by decide), st_ne (a := 32) (by decide), h12, n_add, bnd_e]
        have hfr : frG S (st (st (st S 43 (4 * c.length + ks.length) (nI k)) 42 c.length (nI (ks.length + 1))) 32 12 (nI (e - (xs.length + 1) + 1))) := ((frG.c4 (by omega) _ _ _).tr (frG.c4 (by omega) _ _ _)).tr (frG.s12 _ _)
        obtain ⟨S', ys, ks', b1, b2, b3, b4, b5, b6, b7, b8, b9, b10⟩ := ih (ks ++ [k]) g (st (st (st S 43 (4 * c.length + ks.length) (nI k)) 42 c.length (nI (ks.length + 1))) 32 12 (nI (e - (xs.length + 1) + 1))) (by omega) (okS_stp hs hst) (fun i m hi => by
          have hil := mac_lt hi
          have hml := (hs.1.1.2 i m hi).2.2.2.2.1
          exact (hR i m hi).ne hml (by rw [st_ne (by decide), st_ne (by decide), st_ne (by decide)]) (by rw [st_ne (by decide), st_ne (by decide), st_ne (by decide)]) (by rw [st_ne (by decide), st_n (by omega), st_ne (by decide)]) (fun j hj => by rw [st_ne (by decide), st_ne (by decide), st_n (by omega)])) ⟨by rw [st_ne (by decide), st_ne (by decide), st_ne (by decide)]; exact hm.1, by rw [st_ne (by decide), st_ne (by decide), st_ne (by decide)]; exact hm.2.1, by
            rw [st_ne (by decide), st_s]
            show _ = nI (ks ++ [k]).length
            rw [List.length_append]; rfl, fun j y hy => by
            have hy : (ks ++ [k])[j]? = some y := hy
            rw [st_ne (by decide), st_ne (by decide)]
            by_cases ej : j < ks.length
            · rw [List.getElem?_append_left ej] at hy
              rw [st_n (by omega)]
              exact hm.2.2.2 j y hy
            · rw [List.getElem?_append_right (by omega)] at hy
              have hj : j = ks.length := by
                rcases Nat.lt_or_ge (j - ks.length) 1 with z | z
                · omega
                · rw [List.getElem?_eq_none (by exact z)] at hy; cases hy
              subst hj
              rw [Nat.sub_self] at hy
              have : k = y := Option.some.inj hy
              rw [st_s, this]⟩ (by rw [st_s]; congr 1; omega) (a2.fr (by rw [st_ne (by decide), st_ne (by decide), st_ne (by decide)]))
        refine ⟨S', ys, ks', b1, (run_s hst).trans b2, b3, b4, b5, b6, b7, b8, hfr.tr b9, b10.trans (by rw [st_n (by decide), st_ne (by decide), st_ne (by decide)])⟩
/-- one macro is read -/
def MacA (N : Nat) (c : List Mac) (e : Nat) (xs : List Int32) (S : St) (o : Option (Int32 × St)) : Prop := ∃ S', ((∃ r, run xs (sKind c) = .inl r ∧ o = some (nI 0, S') ∧ S' 32 12 = nI (e - r)) ∨ ∃ ys kd tm ks, o = some (nI 1, S') ∧ ks.length ≠ 0 ∧ run xs (sKind c) = run ys (sKeys c kd tm ks) ∧ Stop c ks ys ∧ okS (sKeys c kd tm ks) ∧ RdMs S' (c ++ [(kd, tm, ks)]) ∧ S' 32 12 = nI (e - ys.length) ∧ AtC S' 35 e ys) ∧ frG S S' ∧ S' 32 13 = S 32 13
theorem readM_59 {N : Nat} (hN : 250 ≤ N) {c : List Mac} {e : Nat} (he : e ≤ 240) (hs : okS (sKind c)) {x : Int32} {xs : List Int32} {S : St} (hR : RdMs S c) (h12 : S 32 12 = nI (e - (xs.length + 1))) (hle : xs.length + 1 ≤ e) (hA : AtC S 35 e xs) {kd : Nat} (hkd : kd ≤ 2) (hst : stp x (sKind c) = some (sTim c kd)) : MacA N c e (x :: xs) S (f_X7_readMacro_59 N S (nI e) (nI c.length) (nI kd) (nI c.length)) := by
  have hcl : c.length < 3 := hs.2
  have hin : inb (nI c.length) 3 = true := (inb_i (by omega)).mpr hcl
  unfold MacA
  rw [run_s hst, f_X7_readMacro_59, if_pos hin, n_cl (a := c.length) (by omega), bnd_e, if_pos hin, st_s, if_neg (n_9 (a := kd) (by omega)), st_ne (a := 32) (by decide), h12, n_add, bnd_e, st_s, show e - (xs.length + 1) + 1 = e - xs.length by omega]
  have hf1 : frG S (st (st S 40 c.length (nI kd)) 32 12 (nI (e - xs.length))) := (frG.c4 (by omega) _ _ _).tr (frG.s12 _ _)
  cases xs with
  | nil =>
    rw [List.length_nil, Nat.sub_zero, if_pos (nI_le (Nat.le_refl _) (by omega))]
    exact ⟨_, Or.inl ⟨0, rfl, rfl, by rw [st_s, Nat.sub_zero]⟩, hf1, by rw [st_n (by decide), st_ne (by decide)]⟩
  | cons y ys =>
    obtain ⟨a1, a2⟩ := hA.tail
    rw [List.length_cons] at hle hf1 ⊢
    have hin2 : inb (nI (e - (ys.length + 1))) 240 = true := (inb_i (by omega)).mpr (by omega)
    rw [if_neg (nI_ge (by omega) (by omega)), if_pos hin2, n_cl (a := e - (ys.length + 1)) (by omega), st_ne (a := 35) (by decide), st_ne (a := 35) (by decide), a1]
    have hst2 : stp y (sTim c kd) = if y < nI 49 then none else if nI 51 < y then none else some (sKeys c kd (y - nI 48).toNatClampNeg []) := rfl
    by_cases h5 : y < nI 49 ∨ nI 51 < y
    · rw [within_no N _ h5, cal_s, if_pos nI_0]
      refine ⟨_, Or.inl ⟨ys.length + 1, run_n ?_, rfl, st_s⟩, hf1, by rw [st_n (by decide), st_ne (by decide)]⟩
      rw [hst2]
      by_cases h6 : y < nI 49
      · rw [if_pos h6]
      · rw [if_neg h6, if_pos (h5.resolve_left h6)]
    · have h51 : ¬ y < nI 49 := fun w => h5 (Or.inl w)
      have h52 : ¬ nI 51 < y := fun w => h5 (Or.inr w)
      rw [if_neg h51, if_neg h52] at hst2
      rw [within_ok N _ h51 h52, cal_s, if_neg (by decide), st_s, if_pos hin2, if_pos hin, n_cl (a := e - (ys.length + 1)) (by omega), st_ne (a := 35) (by decide), st_ne (a := 35) (by decide), a1, bnd_e, st_ne (a := 32) (by decide), st_s, n_add, bnd_e, if_pos hin, bnd_e, show e - (ys.length + 1) + 1 = e - ys.length by omega]
      obtain ⟨v, v1, v2, rfl⟩ := rng (lo := 49) (hi := 51) (by decide) (by decide) h51 h52
      rw [n_sub (by omega), n_cl (a := v - 48) (by omega)] at hst2
      rw [n_sub (by omega)]
      have hok := okS_stp (s := sTim c kd) ⟨hs, hkd⟩ hst2
      have hfr : frG S (st (st (st (st (st S 40 c.length (nI kd)) 32 12 (nI (e - (ys.length + 1)))) 41 c.length (nI (v - 48))) 32 12 (nI (e - ys.length))) 42 c.length (nI 0)) := (((hf1.tr (frG.c4 (by omega) _ _ _)).tr (frG.s12 _ _)).tr (frG.c4 (by omega) _ _ _))
      obtain ⟨S', zs, ks', b1, b2, b3, b4, b5, b6, b7, b8, b9, b10⟩ := keysM (N := N) he ys [] N (by omega) hok (fun i m hi => by
          have hil := mac_lt hi
          have hml := (hs.1.2 i m hi).2.2.2.2.1
          exact (hR i m hi).ne hml (by rw [st_ne (by decide), st_ne (by decide), st_ne (by decide), st_ne (by decide), st_n (by omega)]) (by rw [st_ne (by decide), st_ne (by decide), st_n (by omega), st_ne (by decide), st_ne (by decide)]) (by rw [st_n (by omega), st_ne (by decide), st_ne (by decide), st_ne (by decide), st_ne (by decide)]) (fun j hj => by rw [st_ne (by decide), st_ne (by decide), st_ne (by decide), st_ne (by decide), st_ne (by decide)])) (S := st (st (st (st (st S 40 c.length (nI kd)) 32 12 (nI (e - (ys.length + 1)))) 41 c.length (nI (v - 48))) 32 12 (nI (e - ys.length))) 42 c.length (nI 0)) ⟨by rw [st_ne (by decide), st_ne (by decide), st_ne (by decide), st_ne (by decide), st_s], by rw [st_ne (by decide), st_ne (by decide), st_s], st_s, fun j y hy => (by cases hy)⟩ (by rw [st_ne (by decide), st_s]) (a2.fr (by rw [st_ne (by decide), st_ne (by decide), st_ne (by decide), st_ne (by decide), st_ne (by decide)]))
      have h13 : S' 32 13 = S 32 13 := b10.trans (by rw [st_ne (by decide), st_n (by decide), st_ne (by decide), st_n (by decide), st_ne (by decide)])
      rw [b1, run_s hst2, b2]
      by_cases e0 : ks'.length = 0
      · refine ⟨S', Or.inl ⟨zs.length, ?_, ?_, b7⟩, hfr.tr b9, h13⟩
        · rcases b3 with z | z | ⟨y, t, z1, z2⟩
          · omega
          · rw [z]
            unfold run
            rw [if_neg (fun w => w e0)]
            rfl
          · rw [z1]
            refine run_n ?_
            rw [stp_keys, z2]
            dsimp only
            rw [if_neg (fun w => w.2.1 e0)]
        · rw [decide_eq_false (fun z => z e0)]; rfl
      · refine ⟨S', Or.inr ⟨zs, kd, v - 48, ks', ?_, e0, rfl, b3, b4, RdMs_snoc b5 b6, b7, b8⟩, hfr.tr b9, h13⟩
        rw [decide_eq_true e0]; rfl
theorem readM_ok {N : Nat} (hN : 250 ≤ N) {c : List Mac} {e : Nat} (he : e ≤ 240) (hs : okS (sKind c)) {xs : List Int32} {S : St} (hR : RdMs S c) (h12 : S 32 12 = nI (e - xs.length)) (hA : AtC S 35 e xs) : MacA N c e xs S (f_X7_readMacro N S (nI e) (nI c.length)) := by
  have hcl : c.length < 3 := hs.2
  have hin : inb (nI c.length) 3 = true := (inb_i (by omega)).mpr hcl
  have hbad : ∀ (_ : ∃ r, run xs (sKind c) = .inl r ∧ r = xs.length), MacA N c e xs S (f_X7_readMacro_59 N S (nI e) (nI c.length) (-9 : Int32) (nI c.length)) := fun ⟨r, hr, hrl⟩ => by
    refine ⟨st S 40 c.length (-9), Or.inl ⟨r, hr, ?_, by rw [st_ne (by decide), hrl]; exact h12⟩, frG.c4 (by omega) _ _ _, by rw [st_ne (by decide)]⟩
    rw [f_X7_readMacro_59, if_pos hin, n_cl (by omega), bnd_e, if_pos hin, st_s, if_pos rfl]
  cases xs with
  | nil =>
    rw [List.length_nil, Nat.sub_zero] at h12
    rw [f_X7_readMacro, h12, if_pos (nI_le (Nat.le_refl _) (by omega)), f_X7_readMacro_21, if_neg (by decide), if_neg (by decide), if_neg (by decide)]
    exact hbad ⟨0, rfl, rfl⟩
  | cons x xs =>
    obtain ⟨a1, a2⟩ := hA.tail
    have hle := hA.1
    rw [List.length_cons] at h12 hle
    have hin2 : inb (nI (e - (xs.length + 1))) 240 = true := (inb_i (by omega)).mpr (by omega)
    rw [f_X7_readMacro, h12, if_neg (nI_ge (by omega) (by omega)), if_pos hin2, n_cl (a := e - (xs.length + 1)) (by omega), a1, f_X7_readMacro_21]
    have hst : stp x (sKind c) = if x = nI 112 then some (sTim c 0) else if x = nI 98 then some (sTim c 1) else if x = nI 101 then some (sTim c 2) else none := rfl
    by_cases e1 : x = nI 112
    · rw [if_pos e1] at hst ⊢
      exact readM_59 hN he hs hR h12 hle a2 (by decide) hst
    rw [if_neg e1] at hst ⊢
    by_cases e2 : x = nI 98
    · rw [if_pos e2] at hst ⊢
      exact readM_59 hN he hs hR h12 hle a2 (by decide) hst
    rw [if_neg e2] at hst ⊢
    by_cases e3 : x = nI 101
    · rw [if_pos e3] at hst ⊢
      exact readM_59 hN he hs hR h12 hle a2 (by decide) hst
    rw [if_neg e3] at hst ⊢
    exact hbad ⟨xs.length + 1, run_n hst, rfl⟩
/-- all macros are read -/
def AllA (e : Nat) (o : Option (Int32 × St)) (S : St) (z : Nat ⊕ List Mac) : Prop := ∃ S', (match z with | .inl r => o = some (nI 0, S') ∧ S' 32 12 = nI (e - r) | .inr c => o = some (nI 1, S') ∧ S' 32 13 = nI c.length ∧ RdMs S' c) ∧ frG S S'
theorem AllA.fr {e : Nat} {o : Option (Int32 × St)} {S T : St} {z : Nat ⊕ List Mac} (h : AllA e o T z) (hf : frG S T) : AllA e o S z := by
  obtain ⟨S', h1, h2⟩ := h
  exact ⟨S', h1, hf.tr h2⟩
theorem allM_1 {N : Nat} (hN : 250 ≤ N) {e : Nat} (he : e ≤ 240) : ∀ (d : Nat) (c : List Mac) (xs : List Int32) (g : Nat) (S : St), c.length + d = 2 → d < g → okS (sKind c) → RdMs S c → S 32 12 = nI (e - xs.length) → S 32 13 = nI c.length → AtC S 35 e xs → AllA e (cal (f_X7_readMacro N S (nI e) (S 32 13)) (fun r4 S2 => if r4 = (0 : Int32) then some ((nI 0), S2) else bnd (st S2 32 13 ((S2 32 13) + (nI 1))) (fun S5 => f_X7_readMacrosAll_39 N g S5 (nI e)))) S (run xs (sKind c)) := by
  intro d
  induction d with
  | zero =>
    intro c xs g S hd hg hs hR h12 h13 hA
    obtain ⟨g, rfl⟩ : ∃ e, g = e + 1 := ⟨g - 1, by omega⟩
    rw [h13]
    obtain ⟨S1, h, hf, h13'⟩ := readM_ok hN he hs hR h12 hA
    rcases h with ⟨r, h1, h2, h3⟩ | ⟨ys, kd, tm, ks, h1, h2, h3, h4, h5, h6, h7, h8⟩
    · rw [h1, h2, cal_s, if_pos nI_0]
      exact ⟨S1, ⟨rfl, h3⟩, hf⟩
    · rw [h1, h3, cal_s, if_neg (by decide), bnd_e, h13', h13, n_add, f_X7_readMacrosAll_39, st_s, if_neg (by rw [z_eq (by omega)]; omega), if_pos (nI_le (by omega) (by omega)), f_X7_readMacrosAll_123, st_n (by decide), h7]
      have hyl := h8.1
      cases ys with
      | nil =>
        rw [List.length_nil, Nat.sub_zero, if_pos rfl]
        have hr : run [] (sKeys c kd tm ks) = .inr (c ++ [(kd, tm, ks)]) := by unfold run; rw [if_pos h2]
        rw [hr]
        refine ⟨st S1 32 13 (nI (c.length + 1)), ⟨rfl, by rw [st_s, List.length_append]; rfl, ?_⟩, hf.tr (frG.s13 _ _)⟩
        exact fun i m hi => h6 i m hi
      | cons y t =>
        rw [List.length_cons] at hyl ⊢
        rw [if_neg (by rw [n_eq (by omega) (by omega)]; omega)]
        have hr : run (y :: t) (sKeys c kd tm ks) = .inl (t.length + 1) := by
          refine run_n ?_
          rw [stp_keys]
          cases hk : kb c.length y with
          | some k =>
            dsimp only
            rcases h4 with z | z | ⟨y', t', z1, z2⟩
            · rw [if_neg (by omega)]
            · cases z
            · cases z1; rw [z2] at hk; cases hk
          | none =>
            dsimp only
            rw [if_neg (fun w => by have := w.2.2; omega)]
        rw [hr]
        exact ⟨st S1 32 13 (nI (c.length + 1)), ⟨rfl, by rw [st_n (by decide)]; exact h7⟩, hf.tr (frG.s13 _ _)⟩
  | succ d ih =>
    intro c xs g S hd hg hs hR h12 h13 hA
    obtain ⟨g, rfl⟩ : ∃ e, g = e + 1 := ⟨g - 1, by omega⟩
    rw [h13]
    obtain ⟨S1, h, hf, h13'⟩ := readM_ok hN he hs hR h12 hA
    rcases h with ⟨r, h1, h2, h3⟩ | ⟨ys, kd, tm, ks, h1, h2, h3, h4, h5, h6, h7, h8⟩
    · rw [h1, h2, cal_s, if_pos nI_0]
      exact ⟨S1, ⟨rfl, h3⟩, hf⟩
    · have hyl := h8.1
      rw [h1, h3, cal_s, if_neg (by decide), bnd_e, h13', h13, n_add, f_X7_readMacrosAll_39, st_s, if_neg (by rw [z_eq (by omega)]; omega), if_neg (nI_ge (by omega) (by omega)), st_n (by decide), h7]
      cases ys with
      | nil =>
        rw [List.length_nil, Nat.sub_zero, if_pos (nI_le (Nat.le_refl _) (by omega)), f_X7_readMacrosAll_123, st_n (by decide), h7, List.length_nil, Nat.sub_zero, if_pos rfl]
        have hr : run [] (sKeys c kd tm ks) = .inr (c ++ [(kd, tm, ks)]) := by unfold run; rw [if_pos h2]
        rw [hr]
        refine ⟨st S1 32 13 (nI (c.length + 1)), ⟨rfl, by rw [st_s, List.length_append]; rfl, ?_⟩, hf.tr (frG.s13 _ _)⟩
        exact fun i m hi => h6 i m hi
      | cons y t =>
        obtain ⟨a1, a2⟩ := h8.tail
        rw [List.length_cons] at hyl h7 ⊢
        have hin2 : inb (nI (e - (t.length + 1))) 240 = true := (inb_i (by omega)).mpr (by omega)
        rw [if_neg (nI_ge (by omega) (by omega)), f_X7_readMacrosAll_62, st_n (by decide), h7, if_neg (nI_ge (by omega) (by omega)), if_pos hin2, n_cl (by omega), st_ne (a := 35) (by decide), a1]
        by_cases e59 : y = nI 59
        · subst e59
          have hst : stp (nI 59) (sKeys c kd tm ks) = some (sKind (c ++ [(kd, tm, ks)])) := by
            rw [stp_keys, kb_59 hs.2]
            dsimp only
            rw [if_pos ⟨rfl, h2, by omega⟩]
          rw [if_pos rfl, bnd_e, run_s hst, n_add, show e - (t.length + 1) + 1 = e - t.length by omega]
          have hcl : (c ++ [((kd, tm, ks) : Mac)]).length = c.length + 1 := List.length_append
          have := ih (c ++ [(kd, tm, ks)]) t g (st (st S1 32 13 (nI (c.length + 1))) 32 12 (nI (e - t.length))) (by omega) (by omega) (okS_stp h5 hst) (fun i m hi => h6 i m hi) st_s (by rw [st_n (by decide), st_s, hcl]) (a2.fr (by rw [st_ne (by decide), st_ne (by decide)]))
          exact this.fr ((hf.tr (frG.s13 _ _)).tr (frG.s12 _ _))
        · rw [if_neg e59]
          have hr : run (y :: t) (sKeys c kd tm ks) = .inl (t.length + 1) := by
            refine run_n ?_
            rw [stp_keys]
            cases hk : kb c.length y with
            | some k =>
              dsimp only
              rcases h4 with z | z | ⟨y', t', z1, z2⟩
              · rw [if_neg (by omega)]
              · cases z
              · cases z1; rw [z2] at hk; cases hk
            | none =>
              dsimp only
              rw [if_neg (fun w => e59 w.1)]
          rw [hr]
          exact ⟨st S1 32 13 (nI (c.length + 1)), ⟨rfl, by rw [st_n (by decide)]; exact h7⟩, hf.tr (frG.s13 _ _)⟩
theorem readAll_ok {N : Nat} (hN : 250 ≤ N) {e : Nat} (he : e ≤ 240) {xs : List Int32} {S : St} (h12 : S 32 12 = nI (e - xs.length)) (hA : AtC S 35 e xs) : AllA e (f_X7_readMacrosAll N S (nI e)) S (run xs sBeg) := by
  obtain ⟨M, hM⟩ : ∃ M, N = M + 1 := ⟨N - 1, by omega⟩
  rw [f_X7_readMacrosAll, bnd_e, st_n (by decide), h12]
  cases xs with
  | nil =>
    rw [List.length_nil, Nat.sub_zero] at h12 ⊢
    rw [if_pos (nI_le (Nat.le_refl _) (by omega))]
    exact ⟨_, ⟨rfl, by rw [st_n (by decide), Nat.sub_zero]; exact h12⟩, frG.s13 _ _⟩
  | cons x xs =>
    obtain ⟨a1, a2⟩ := hA.tail
    have hle := hA.1
    rw [List.length_cons] at h12 hle ⊢
    rw [if_neg (nI_ge (by omega) (by omega)), if_pos ((inb_i (by omega)).mpr (by omega)), n_cl (by omega), st_ne (a := 35) (by decide), a1]
    have hst : stp x sBeg = if x = nI 107 then some sMark else none := rfl
    by_cases e1 : x = nI 107
    · rw [if_pos e1] at hst ⊢
      rw [bnd_e, n_add, run_s hst, show e - (xs.length + 1) + 1 = e - xs.length by omega]
      have hf2 : frG S (st (st S 32 13 (nI 0)) 32 12 (nI (e - xs.length))) := (frG.s13 _ _).tr (frG.s12 _ _)
      have h39 : f_X7_readMacrosAll_39 N N (st (st S 32 13 (nI 0)) 32 12 (nI (e - xs.length))) (nI e) = f_X7_readMacrosAll_62 N (f_X7_readMacrosAll_39 N M) (st (st S 32 13 (nI 0)) 32 12 (nI (e - xs.length))) (nI e) := by
        have : ∀ n, n = M + 1 → f_X7_readMacrosAll_39 N n (st (st S 32 13 (nI 0)) 32 12 (nI (e - xs.length))) (nI e) = f_X7_readMacrosAll_62 N (f_X7_readMacrosAll_39 N M) (st (st S 32 13 (nI 0)) 32 12 (nI (e - xs.length))) (nI e) := fun n hn => by
          subst hn
          rw [f_X7_readMacrosAll_39, st_n (by decide), st_s, if_pos nI_0]
        exact this N hM
      rw [h39, f_X7_readMacrosAll_62, st_s]
      cases xs with
      | nil =>
        rw [List.length_nil, Nat.sub_zero] at hf2 ⊢
        rw [if_pos (nI_le (Nat.le_refl _) (by omega))]
        exact ⟨_, ⟨rfl, by rw [st_s, Nat.sub_zero]⟩, hf2⟩
      | cons y t =>
        obtain ⟨b1, b2⟩ := a2.tail
        rw [List.length_cons] at hle hf2 ⊢
        rw [if_neg (nI_ge (by omega) (by omega)), if_pos ((inb_i (by omega)).mpr (by omega)), n_cl (by omega), st_ne (a := 35) (by decide), st_ne (a := 35) (by decide), b1]
        have hst2 : stp y sMark = if y = nI 59 then some (sKind []) else none := rfl
        by_cases e2 : y = nI 59
        · rw [if_pos e2] at hst2 ⊢
          rw [bnd_e, n_add, run_s hst2, show e - (t.length + 1) + 1 = e - t.length by omega]
          have hok : okS (sKind []) := ⟨⟨Nat.zero_le _, fun i m hm => by cases hm⟩, by decide⟩
          have := allM_1 hN he 2 [] t M (st (st (st S 32 13 (nI 0)) 32 12 (nI (e - (t.length + 1)))) 32 12 (nI (e - t.length))) rfl (by omega) hok (fun i m hm => by cases hm) st_s (by rw [st_n (by decide), st_n (by decide), st_s]; rfl) (b2.fr (by rw [st_ne (by decide), st_ne (by decide), st_ne (by decide)]))
          exact this.fr (hf2.tr (frG.s12 _ _))
        · rw [if_neg e2] at hst2 ⊢
          rw [run_n hst2]
          exact ⟨_, ⟨rfl, st_s⟩, hf2⟩
    · rw [if_neg e1] at hst ⊢
      rw [run_n hst]
      exact ⟨_, ⟨rfl, by rw [st_n (by decide)]; exact h12⟩, frG.s13 _ _⟩
