/-! the class reads a text -/
theorem addsKey_no (N : Nat) {S : St} {m : Nat} (hm : m < 3) (h : S 4 1 = nI (m + 1)) {x : Int32} (hk : kb m x = none) : f_X3_addsKey N S x = some (nI 0, S) := by
  rw [f_X3_addsKey, keyOf_ok N hm h x, hk, cal_s, if_pos rfl]
theorem addsKey_full (N : Nat) {S : St} {m : Nat} (hm : m < 3) (h : S 4 1 = nI (m + 1)) (h2 : S 4 2 = nI m) {x : Int32} {k : Nat} (hk : kb m x = some k) (hc : S (20 + (3 + m)) 2 = nI 4) : f_X3_addsKey N S x = some (nI 0, S) := by
  have := kb_lt hm hk
  rw [f_X3_addsKey, keyOf_ok N hm h x, hk, cal_s]
  dsimp only
  rw [if_neg (n_9 (a := k) (by omega)), h2, n_cl (by omega), if_pos hm, hc, if_neg (by decide)]
theorem addsKey_ok (N : Nat) {S : St} {c : List Mac} {kd tm : Nat} {ks : List Nat} (hc : c.length < 3) (hC : CR S (sKeys c kd tm ks)) {x : Int32} {k : Nat} (hk : kb c.length x = some k) (hl : ks.length < 4) : ∃ S', f_X3_addsKey N S x = some (nI 1, S') ∧ CR S' (sKeys c kd tm (ks ++ [k])) ∧ frE S S' := by
  obtain ⟨c1, c2, c3, c4, c5, c6, c7, c8⟩ := hC
  have c7 : S (20 + (3 + c.length)) 2 = nI ks.length := c7
  have c8 : ∀ j k, ks[j]? = some k → S (26 + (3 + c.length)) j = nI k := c8
  have := kb_lt hc hk
  refine ⟨st (st S (26 + (3 + c.length)) ks.length (nI k)) (20 + (3 + c.length)) 2 (nI (ks.length + 1)), ?_, ⟨?_, ?_, ?_, fun e m hm => ?_, ?_, ?_, ?_, fun j y hy => ?_⟩, (frE.st (by omega) _ _ _).tr (frE.st (by omega) _ _ _)⟩
  · rw [f_X3_addsKey, keyOf_ok N hc c2 x, hk, cal_s]
    dsimp only
    rw [if_neg (n_9 (a := k) (by omega)), c3, n_cl (a := c.length) (by omega), if_pos hc, c7, if_pos (nI_lt hl (by omega)), if_pos hc, if_pos hc, if_pos ((inb_i (by omega)).mpr hl), n_cl (by omega), bnd_e, st_ne (a := 4) (by omega), c3, n_cl (by omega), if_pos hc, st_ne (a := 20 + (3 + c.length)) (by omega), c7, n_add, bnd_e]
  · rw [st_ne (by omega), st_ne (by omega)]; exact c1
  · rw [st_ne (by omega), st_ne (by omega)]; exact c2
  · rw [st_ne (by omega), st_ne (by omega)]; exact c3
  · have he := mac_lt hm
    exact (c4 e m hm).ne (by rw [st_ne (by omega), st_ne (by omega)]) (by rw [st_ne (by omega), st_ne (by omega)])
  · rw [st_n (by decide), st_ne (by omega)]; exact c5
  · rw [st_n (by decide), st_ne (by omega)]; exact c6
  · rw [st_s]
    show _ = nI (ks ++ [k]).length
    rw [List.length_append]; rfl
  · have hy : (ks ++ [k])[j]? = some y := hy
    rw [st_ne (by omega)]
    by_cases ej : j < ks.length
    · rw [List.getElem?_append_left ej] at hy
      rw [st_n (by omega)]
      exact c8 j y hy
    · rw [List.getElem?_append_right (by omega)] at hy
      have hj : j = ks.length := by
        rcases Nat.lt_or_ge (j - ks.length) 1 with z | z
        · omega
        · rw [List.getElem?_eq_none (by exact z)] at hy; cases hy
      subst hj
      rw [Nat.sub_self] at hy
      have : k = y := Option.some.inj hy
      rw [st_s, this]
theorem RdCs_snoc {S : St} {c : List Mac} {m : Mac} (h : RdCs S c) (hm : MacR S c.length m) : RdCs S (c ++ [m]) := by
  intro e x hx
  by_cases ee : e < c.length
  · rw [List.getElem?_append_left ee] at hx
    exact h e x hx
  · rw [List.getElem?_append_right (by omega)] at hx
    have he : e = c.length := by
      rcases Nat.lt_or_ge (e - c.length) 1 with z | z
      · omega
      · rw [List.getElem?_eq_none (by exact z)] at hx; cases hx
    subst he
    rw [Nat.sub_self] at hx
    have : m = x := Option.some.inj hx
    rw [← this]; exact hm
theorem hasKeys_no (N : Nat) {S : St} (h : ¬ S 4 3 = nI 4) : f_X3_hasKeys N S = some (nI 0, S) := by rw [f_X3_hasKeys, if_neg h]
theorem hasKeys_ok (N : Nat) {S : St} {c : List Mac} {kd tm : Nat} {ks : List Nat} (hc : c.length < 3) (hl : ks.length ≤ 4) (hC : CR S (sKeys c kd tm ks)) : f_X3_hasKeys N S = some (nI (b01 (decide (ks.length ≠ 0))), S) := by
  obtain ⟨c1, c2, c3, c4, c5, c6, c7, c8⟩ := hC
  have c7 : S (20 + (3 + c.length)) 2 = nI ks.length := c7
  rw [f_X3_hasKeys, if_pos c1, c3, n_cl (by omega), if_pos hc, c7]
  by_cases e : ks.length = 0
  · rw [if_pos (by rw [z_le (by omega)]; exact e), decide_eq_false (fun z => z e)]; rfl
  · rw [if_neg (by rw [z_le (by omega)]; exact e), decide_eq_true e]; rfl
/-- a code is read -/
theorem goesOn_ok (N : Nat) {S : St} {s : Stg} (hs : okS s) (hC : CR S s) (h42 : (S 4 2).toNatClampNeg < 3) (x : Int32) : ∃ S', f_X3_goesOn N S x = some (nI (b01 (stp x s).isSome), S') ∧ (∀ s', stp x s = some s' → CR S' s') ∧ (S' 4 2).toNatClampNeg < 3 ∧ frE S S' := by
  rw [f_X3_goesOn, bnd_e]
  rcases s with u | u | c | ⟨c, kd⟩ | ⟨c, kd, tm, ks⟩
  · obtain ⟨c1, c2⟩ := hC
    rw [c1, if_pos rfl, f_X3_begins, bnd_e]
    have hst : stp x (.inl u) = if x = nI 107 then some sMark else none := rfl
    rw [hst]
    refine ⟨st S 4 3 (nI 1), ?_, fun s' h => ?_, by rw [st_n (by decide)]; exact h42, frE.st (by omega) _ _ _⟩
    · by_cases e : x = nI 107
      · rw [if_pos e, if_pos e, cal_s, if_pos (by rfl)]; rfl
      · rw [if_neg e, if_neg e, cal_s, if_pos (by rfl)]; rfl
    · by_cases e : x = nI 107
      · rw [if_pos e] at h; cases h; exact ⟨st_s, by rw [st_n (by decide)]; exact c2⟩
      · rw [if_neg e] at h; cases h
  · obtain ⟨c1, c2⟩ := hC
    rw [c1, if_neg (by decide), if_pos rfl]
    have hst : stp x (.inr (.inl u)) = if x = nI 59 then some (sKind []) else none := rfl
    rw [hst]
    by_cases e : x = nI 59
    · subst e
      obtain ⟨S', b1, b2, b3⟩ := marks_ok N (c := []) (by decide) c2 (fun e m hm => by cases hm)
      rw [b1, cal_s, if_pos (by rfl), if_pos rfl]
      refine ⟨S', rfl, fun s' h => by cases h; exact b2, ?_, b3⟩
      rw [b2.2.2.1]; decide
    · rw [marks_no N S e, cal_s, if_pos (by rfl), if_neg e]
      exact ⟨S, rfl, fun s' h => (by cases h), h42, frE.rf S⟩
  · obtain ⟨c1, c2, c3, c4, c5⟩ := hC
    have hcl : c.length < 3 := hs.2
    rw [c1, if_neg (by decide), if_neg (by decide), if_pos rfl, f_X3_tellsKind, c3, n_cl (by omega), if_pos hcl]
    have hst : stp x (.inr (.inr (.inl c))) = if x = nI 112 then some (sTim c 0) else if x = nI 98 then some (sTim c 1) else if x = nI 101 then some (sTim c 2) else none := rfl
    rw [hst]
    have hcr : ∀ v, CR (st (st S (20 + (3 + c.length)) 0 (nI v)) 4 3 (nI 3)) (sTim c v) := fun v => ⟨st_s, by rw [st_n (by decide), st_ne (by omega)]; exact c2, by rw [st_n (by decide), st_ne (by omega)]; exact c3, fun e m hm => (c4 e m hm).ne (by have := mac_lt hm; rw [st_ne (by omega), st_ne (by omega)]) (by rw [st_ne (by omega), st_ne (by omega)]), by rw [st_ne (by omega), st_n (by decide)]; exact c5, by rw [st_ne (by omega), st_s]⟩
    have h42' : ∀ v, ((st (st S (20 + (3 + c.length)) 0 v) 4 3 (nI 3)) 4 2).toNatClampNeg < 3 := fun v => by rw [st_n (by decide), st_ne (by omega)]; exact h42
    have hfe : ∀ v, frE S (st (st S (20 + (3 + c.length)) 0 v) 4 3 (nI 3)) := fun v => (frE.st (by omega) _ _ _).tr (frE.st (by omega) _ _ _)
    by_cases e1 : x = nI 112
    · rw [if_pos e1, if_pos e1, f_X3_tellsKind_25, bnd_e, bnd_e, if_pos e1, cal_s, if_pos (by rfl)]
      exact ⟨_, rfl, fun s' h => by cases h; exact hcr 0, h42' _, hfe _⟩
    rw [if_neg e1, if_neg e1]
    by_cases e2 : x = nI 98
    · rw [if_pos e2, if_pos e2, f_X3_tellsKind_25, bnd_e, bnd_e, if_neg e1, if_pos e2, cal_s, if_pos (by rfl)]
      exact ⟨_, rfl, fun s' h => by cases h; exact hcr 1, h42' _, hfe _⟩
    rw [if_neg e2, if_neg e2, f_X3_tellsKind_25, bnd_e, bnd_e, if_neg e1, if_neg e2]
    by_cases e3 : x = nI 101
    · rw [if_pos e3, if_pos e3, cal_s, if_pos (by rfl)]
      exact ⟨_, rfl, fun s' h => by cases h; exact hcr 2, h42' _, hfe _⟩
    · rw [if_neg e3, if_neg e3, cal_s, if_pos (by rfl)]
      exact ⟨_, rfl, fun s' h => (by cases h), h42' _, hfe _⟩
  · obtain ⟨c1, c2, c3, c4, c5, c6⟩ := hC
    have hcl : c.length < 3 := hs.1.2
    rw [c1, if_neg (by decide), if_neg (by decide), if_neg (by decide), if_pos rfl, f_X3_tellsTimes, c3, n_cl (by omega), if_pos hcl, bnd_e, bnd_e]
    have hst : stp x (.inr (.inr (.inr (.inl (c, kd))))) = if x < nI 49 then none else if nI 51 < x then none else some (sKeys c kd (x - nI 48).toNatClampNeg []) := rfl
    rw [hst]
    have h42' : ((st (st S (20 + (3 + c.length)) 1 (x - nI 48)) 4 3 (nI 4)) 4 2).toNatClampNeg < 3 := by rw [st_n (by decide), st_ne (by omega)]; exact h42
    have hfe : frE S (st (st S (20 + (3 + c.length)) 1 (x - nI 48)) 4 3 (nI 4)) := (frE.st (by omega) _ _ _).tr (frE.st (by omega) _ _ _)
    by_cases e1 : x < nI 49
    · rw [if_pos e1, if_pos e1, cal_s, if_pos (by rfl)]
      exact ⟨_, rfl, fun s' h => (by cases h), h42', hfe⟩
    rw [if_neg e1, if_neg e1]
    by_cases e2 : nI 51 < x
    · rw [if_pos e2, if_pos e2, cal_s, if_pos (by rfl)]
      exact ⟨_, rfl, fun s' h => (by cases h), h42', hfe⟩
    rw [if_neg e2, if_neg e2, cal_s, if_pos (by rfl)]
    obtain ⟨v, v1, v2, rfl⟩ := rng (lo := 49) (hi := 51) (by decide) (by decide) e1 e2
    refine ⟨_, rfl, fun s' h => ?_, h42', hfe⟩
    rw [n_sub (by omega), n_cl (by omega)] at h
    cases h
    rw [n_sub (by omega)]
    exact ⟨st_s, by rw [st_n (by decide), st_ne (by omega)]; exact c2, by rw [st_n (by decide), st_ne (by omega)]; exact c3, fun e m hm => (c4 e m hm).ne (by have := mac_lt hm; rw [st_ne (by omega), st_ne (by omega)]) (by rw [st_ne (by omega), st_ne (by omega)]), by rw [st_ne (by omega), st_n (by decide)]; exact c6, by rw [st_ne (by omega), st_s], by rw [st_ne (by omega), st_n (by decide)]; exact c5, fun j k hk => (by cases hk)⟩
  · have hC0 := hC
    obtain ⟨c1, c2, c3, c4, c5⟩ := hC
    obtain ⟨⟨s1, s2⟩, s3, s4, s5, s6⟩ := hs
    have hst : stp x (.inr (.inr (.inr (.inr (c, kd, tm, ks))))) = (match kb c.length x with | some k => if ks.length < 4 then some (sKeys c kd tm (ks ++ [k])) else none | none => if x = nI 59 ∧ ks.length ≠ 0 ∧ c.length + 1 < 3 then some (sKind (c ++ [(kd, tm, ks)])) else none) := rfl
    rw [c1, if_neg (by decide), if_neg (by decide), if_neg (by decide), if_neg (by decide), hst]
    have hmarks : ∀ (hx : kb c.length x = none ∨ ¬ x = nI 59), (cal (some (nI 0, S)) (fun r16 S14 => if r16 = (0 : Int32) then cal (f_X3_hasKeys N S14) (fun r19 S17 => if r19 = (0 : Int32) then some ((nI 0), S17) else cal (f_X3_marks N S17 x) (fun r22 S20 => if r22 = (0 : Int32) then some ((nI 0), S20) else some ((nI 1), S20))) else some ((nI 1), S14)) : Option (Int32 × St)) = (if ks.length = 0 then some (nI 0, S) else cal (f_X3_marks N S x) (fun r22 S20 => if r22 = (0 : Int32) then some ((nI 0), S20) else some ((nI 1), S20))) := fun _ => by
      rw [cal_s, if_pos nI_0, hasKeys_ok N s2 s5 hC0, cal_s]
      by_cases e : ks.length = 0
      · rw [decide_eq_false (fun z => z e), if_pos (by rfl), if_pos e]
      · rw [decide_eq_true e, if_neg (by decide), if_neg e]
    cases hk : kb c.length x with
    | some k =>
      dsimp only
      by_cases e : ks.length < 4
      · obtain ⟨S', b1, b2, b3⟩ := addsKey_ok N s2 hC0 hk e
        rw [b1, cal_s, if_neg (by decide), if_pos e]
        refine ⟨S', rfl, fun s' h => by cases h; exact b2, ?_, b3⟩
        rw [b2.2.2.1, n_cl (by omega)]; exact s2
      · have h59 : ¬ x = nI 59 := fun z => by rw [z, kb_59 s2] at hk; cases hk
        have h4 : ks.length = 4 := by omega
        rw [addsKey_full N s2 c2 c3 hk (by rw [← h4]; exact c5.2.2.1), hmarks (Or.inr h59), if_neg (by omega), marks_no N S h59, cal_s, if_pos nI_0, if_neg e]
        exact ⟨S, rfl, fun s' h => (by cases h), h42, frE.rf S⟩
    | none =>
      dsimp only
      rw [addsKey_no N s2 c2 hk, hmarks (Or.inl hk)]
      by_cases e : ks.length = 0
      · rw [if_pos e, if_neg (fun z => z.2.1 e)]
        exact ⟨S, rfl, fun s' h => (by cases h), h42, frE.rf S⟩
      · rw [if_neg e]
        by_cases e59 : x = nI 59
        · by_cases e3 : c.length + 1 < 3
          · rw [if_pos ⟨e59, e, e3⟩, e59]
            obtain ⟨S', b1, b2, b3⟩ := marks_ok N (S := S) (c := c ++ [(kd, tm, ks)]) (by rw [List.length_append]; exact e3) (by rw [List.length_append]; exact c2) (RdCs_snoc c4 c5)
            rw [b1, cal_s, if_neg (by decide)]
            refine ⟨S', rfl, fun s' h => by cases h; exact b2, ?_, b3⟩
            have hlen : (c ++ [((kd, tm, ks) : Mac)]).length = c.length + 1 := List.length_append
            rw [b2.2.2.1, hlen, n_cl (by omega)]; exact e3
          · rw [if_neg (fun z => e3 z.2.2), marks_full N x (by rw [c2]; congr 1; omega), cal_s, if_pos nI_0]
            exact ⟨S, rfl, fun s' h => (by cases h), h42, frE.rf S⟩
        · rw [if_neg (fun z => e59 z.1), marks_no N S e59, cal_s, if_pos nI_0]
          exact ⟨S, rfl, fun s' h => (by cases h), h42, frE.rf S⟩
/-- what is left of the text -/
def AtC (S : St) (q e : Nat) (xs : List Int32) : Prop := xs.length ≤ e ∧ ∀ p x, xs[p]? = some x → S q (e - xs.length + p) = x
theorem AtC.tail {S : St} {q e : Nat} {x : Int32} {xs : List Int32} (h : AtC S q e (x :: xs)) : S q (e - (xs.length + 1)) = x ∧ AtC S q e xs := by
  have hl := h.1
  rw [List.length_cons] at hl
  refine ⟨h.2 0 x rfl, by omega, fun p y hy => ?_⟩
  have := h.2 (p + 1) y hy
  rw [List.length_cons] at this
  rw [show e - xs.length + p = e - (xs.length + 1) + (p + 1) by omega]
  exact this
theorem AtC.fr {S S' : St} {q e : Nat} {xs : List Int32} (h : AtC S q e xs) (hf : S' q = S q) : AtC S' q e xs := ⟨h.1, fun p x hx => by rw [hf]; exact h.2 p x hx⟩
theorem first_l (N : Nat) {j i n : Nat} (hj : j < 4) (hin : i + n ≤ 60) : ∀ (xs : List Int32) (g : Nat) (S : St) (s : Stg), xs.length ≤ n → xs.length < g → okS s → CR S s → (S 4 2).toNatClampNeg < 3 → AtC S (16 + j) (i + n) xs → ∃ S', (match run xs s with | .inl r => f_X3_firstFault_13 N g S j (nI i) (nI n) (nI (n - xs.length)) = some (nI (n - r), S') | .inr c => f_X3_firstFault_13 N g S j (nI i) (nI n) (nI (n - xs.length)) = some (-9, S') ∧ S' 4 1 = nI c.length ∧ RdCs S' c) ∧ (S' 4 2).toNatClampNeg < 3 ∧ frE S S' := by
  intro xs
  induction xs with
  | nil =>
    intro g S s hx hg hs hC h42 hA
    obtain ⟨g, rfl⟩ : ∃ e, g = e + 1 := ⟨g - 1, by omega⟩
    refine ⟨S, ?_, h42, frE.rf S⟩
    have hnil : f_X3_firstFault_13 N (g + 1) S j (nI i) (nI n) (nI (n - ([] : List Int32).length)) = cal (f_X3_hasKeys N S) (fun r3 S1 => if r3 = (0 : Int32) then some (nI n, S1) else some ((-9 : Int32), S1)) := by
      rw [f_X3_firstFault_13, List.length_nil, Nat.sub_zero, if_pos (nI_le (Nat.le_refl _) (by omega))]
    rw [hnil]
    rcases s with u | u | c | ⟨c, kd⟩ | ⟨c, kd, tm, ks⟩
    · rw [hasKeys_no N (by rw [hC.1]; decide), cal_s, if_pos nI_0]; rfl
    · rw [hasKeys_no N (by rw [hC.1]; decide), cal_s, if_pos nI_0]; rfl
    · rw [hasKeys_no N (by rw [hC.1]; decide), cal_s, if_pos nI_0]; rfl
    · rw [hasKeys_no N (by rw [hC.1]; decide), cal_s, if_pos nI_0]; rfl
    · rw [hasKeys_ok N hs.1.2 hs.2.2.2.1 hC, cal_s]
      have hr : run [] (.inr (.inr (.inr (.inr (c, kd, tm, ks))))) = if ks.length ≠ 0 then .inr (c ++ [(kd, tm, ks)]) else .inl 0 := by unfold run; rfl
      rw [hr]
      by_cases e : ks.length = 0
      · rw [if_neg (fun z => z e), decide_eq_false (fun z => z e), if_pos (by rfl)]; rfl
      · rw [if_pos e, decide_eq_true e, if_neg (by decide)]
        refine ⟨rfl, ?_, RdCs_snoc hC.2.2.2.1 hC.2.2.2.2⟩
        rw [List.length_append]; exact hC.2.1
  | cons x xs ih =>
    intro g S s hx hg hs hC h42 hA
    obtain ⟨g, rfl⟩ : ∃ e, g = e + 1 := ⟨g - 1, by omega⟩
    rw [List.length_cons] at hx hg ⊢
    obtain ⟨a1, a2⟩ := hA.tail
    obtain ⟨S1, b1, b2, b3, b4⟩ := goesOn_ok N hs hC h42 x
    have hstep : f_X3_firstFault_13 N (g + 1) S j (nI i) (nI n) (nI (n - (xs.length + 1))) = (if nI (b01 (stp x s).isSome) = (0 : Int32) then some (nI (n - (xs.length + 1)), S1) else f_X3_firstFault_13 N g S1 j (nI i) (nI n) (nI (n - xs.length))) := by
      rw [f_X3_firstFault_13, if_neg (nI_ge (by omega) (by omega)), n_add, if_pos ((inb_i (by omega)).mpr (by omega)), n_cl (by omega), show i + (n - (xs.length + 1)) = i + n - (xs.length + 1) by omega, a1, b1, cal_s, bnd_e, n_add, show n - (xs.length + 1) + 1 = n - xs.length by omega]
    rw [hstep]
    have hr : run (x :: xs) s = match stp x s with | some s' => run xs s' | none => .inl (xs.length + 1) := by
      conv => lhs; unfold run
      cases stp x s <;> rfl
    rw [hr]
    cases hst : stp x s with
    | some s' =>
      have hif : ¬ nI (b01 (some s' : Option Stg).isSome) = (0 : Int32) := by show ¬ nI 1 = 0; decide
      rw [if_neg hif]
      obtain ⟨S', d1, d2, d3⟩ := ih g S1 s' (by omega) (by omega) (okS_stp hs hst) (b2 s' hst) b3 (a2.fr (b4 _ (by omega) (by omega) (by omega)))
      exact ⟨S', d1, d2, b4.tr d3⟩
    | none =>
      have hif : nI (b01 (none : Option Stg).isSome) = (0 : Int32) := rfl
      rw [if_pos hif]
      exact ⟨S1, rfl, b3, b4⟩
theorem first_ok {N : Nat} (hN : 70 ≤ N) {S : St} {j i n : Nat} (hj : j < 4) (hin : i + n ≤ 60) (h42 : (S 4 2).toNatClampNeg < 3) {xs : List Int32} (hx : xs.length = n) (hA : AtC S (16 + j) (i + n) xs) : ∃ S', (match run xs sBeg with | .inl r => f_X3_firstFault N S j (nI i) (nI n) = some (nI (n - r), S') | .inr c => f_X3_firstFault N S j (nI i) (nI n) = some (-9, S') ∧ S' 4 1 = nI c.length ∧ RdCs S' c) ∧ (S' 4 2).toNatClampNeg < 3 ∧ frE S S' := by
  have hf : frE S (st (st S 4 3 (nI 0)) 4 1 (nI 0)) := (frE.st (by omega) _ _ _).tr (frE.st (by omega) _ _ _)
  obtain ⟨S', d1, d2, d3⟩ := first_l N hj hin xs N (st (st S 4 3 (nI 0)) 4 1 (nI 0)) sBeg (by omega) (by omega) trivial ⟨by rw [st_n (by decide), st_s], st_s⟩ (by rw [st_n (by decide), st_n (by decide)]; exact h42) (hA.fr (hf _ (by omega) (by omega) (by omega)))
  refine ⟨S', ?_, d2, hf.tr d3⟩
  rw [hx, Nat.sub_self] at d1
  have he : f_X3_firstFault N S j (nI i) (nI n) = f_X3_firstFault_13 N N (st (st S 4 3 (nI 0)) 4 1 (nI 0)) j (nI i) (nI n) (nI 0) := by rw [f_X3_firstFault, bnd_e, bnd_e, bnd_e]
  rw [he]
  exact d1
