/-! ALL LINES: by either number; what a key makes of a line -/
theorem cn_sur {x : Nat} (h : x < 7737) : ∃ l, okL l ∧ cn l = x := by
  rcases Nat.lt_or_ge x 1 with h0 | h0
  · exact ⟨(0, 0, 0), e_ok, by show (0 : Nat) = x; omega⟩
  rcases Nat.lt_or_ge x 9 with h1 | h1
  · exact ⟨(1, (x - 1) / 4, (x - 1) % 4), ⟨by show 1 ≤ 5; decide, by show (x - 1) / 4 ≤ 1; omega, by show (x - 1) % 4 < 4; omega⟩, by show 1 + (x - 1) / 4 * 4 + (x - 1) % 4 = x; omega⟩
  rcases Nat.lt_or_ge x 57 with h2 | h2
  · exact ⟨(2, (x - 9) / 16, (x - 9) % 16), ⟨by show 2 ≤ 5; decide, by show (x - 9) / 16 ≤ 2; omega, by show (x - 9) % 16 < 16; omega⟩, by show 9 + (x - 9) / 16 * 16 + (x - 9) % 16 = x; omega⟩
  rcases Nat.lt_or_ge x 313 with h3 | h3
  · exact ⟨(3, (x - 57) / 64, (x - 57) % 64), ⟨by show 3 ≤ 5; decide, by show (x - 57) / 64 ≤ 3; omega, by show (x - 57) % 64 < 64; omega⟩, by show 57 + (x - 57) / 64 * 64 + (x - 57) % 64 = x; omega⟩
  rcases Nat.lt_or_ge x 1593 with h4 | h4
  · exact ⟨(4, (x - 313) / 256, (x - 313) % 256), ⟨by show 4 ≤ 5; decide, by show (x - 313) / 256 ≤ 4; omega, by show (x - 313) % 256 < 256; omega⟩, by show 313 + (x - 313) / 256 * 256 + (x - 313) % 256 = x; omega⟩
  · exact ⟨(5, (x - 1593) / 1024, (x - 1593) % 1024), ⟨by show 5 ≤ 5; decide, by show (x - 1593) / 1024 ≤ 5; omega, by show (x - 1593) % 1024 < 1024; omega⟩, by show 1593 + (x - 1593) / 1024 * 1024 + (x - 1593) % 1024 = x; omega⟩
theorem rn_sur {x : Nat} (h : x < 7737) : ∃ l, okL l ∧ rn l = x := by
  rcases Nat.lt_or_ge x 1 with h0 | h0
  · exact ⟨(0, 0, 0), e_ok, by show (0 : Nat) = x; omega⟩
  rcases Nat.lt_or_ge x 9 with h1 | h1
  · exact ⟨(1, (x - 1) % 2, (x - 1) / 2), ⟨by show 1 ≤ 5; decide, by show (x - 1) % 2 ≤ 1; omega, by show (x - 1) / 2 < 4; omega⟩, by show 1 + (x - 1) / 2 * 2 + (x - 1) % 2 = x; omega⟩
  rcases Nat.lt_or_ge x 57 with h2 | h2
  · exact ⟨(2, (x - 9) % 3, (x - 9) / 3), ⟨by show 2 ≤ 5; decide, by show (x - 9) % 3 ≤ 2; omega, by show (x - 9) / 3 < 16; omega⟩, by show 9 + (x - 9) / 3 * 3 + (x - 9) % 3 = x; omega⟩
  rcases Nat.lt_or_ge x 313 with h3 | h3
  · exact ⟨(3, (x - 57) % 4, (x - 57) / 4), ⟨by show 3 ≤ 5; decide, by show (x - 57) % 4 ≤ 3; omega, by show (x - 57) / 4 < 64; omega⟩, by show 57 + (x - 57) / 4 * 4 + (x - 57) % 4 = x; omega⟩
  rcases Nat.lt_or_ge x 1593 with h4 | h4
  · exact ⟨(4, (x - 313) % 5, (x - 313) / 5), ⟨by show 4 ≤ 5; decide, by show (x - 313) % 5 ≤ 4; omega, by show (x - 313) / 5 < 256; omega⟩, by show 313 + (x - 313) / 5 * 5 + (x - 313) % 5 = x; omega⟩
  · exact ⟨(5, (x - 1593) % 6, (x - 1593) / 6), ⟨by show 5 ≤ 5; decide, by show (x - 1593) % 6 ≤ 5; omega, by show (x - 1593) / 6 < 1024; omega⟩, by show 1593 + (x - 1593) / 6 * 6 + (x - 1593) % 6 = x; omega⟩
/-- the line of a number -/
noncomputable def lc (x : Nat) : Ln := if h : x < 7737 then Classical.choose (cn_sur h) else (0, 0, 0)
noncomputable def lr (x : Nat) : Ln := if h : x < 7737 then Classical.choose (rn_sur h) else (0, 0, 0)
theorem lc_ok {x : Nat} (h : x < 7737) : okL (lc x) ∧ cn (lc x) = x := by unfold lc; rw [dif_pos h]; exact Classical.choose_spec (cn_sur h)
theorem lr_ok {x : Nat} (h : x < 7737) : okL (lr x) ∧ rn (lr x) = x := by unfold lr; rw [dif_pos h]; exact Classical.choose_spec (rn_sur h)
theorem nd_map {f : Nat → Ln} {g : Ln → Nat} {n : Nat} (h : ∀ x, x < n → g (f x) = x) : ((List.range n).map f).Nodup := by
  have h1 : ((List.range n).map f).map g = List.range n := by
    rw [List.map_map]
    apply List.ext_getElem
    · simp
    · intro i h1 h2
      rw [List.length_range] at h2
      rw [List.getElem_map, List.getElem_range]
      exact h i h2
  have h2 : (((List.range n).map f).map g).Nodup := by rw [h1]; exact List.nodup_range
  exact List.Pairwise.imp (fun {a b} hab e => hab (congrArg g e)) (List.pairwise_map.mp h2)
theorem lines_perm : ((List.range 7737).map lc).Perm ((List.range 7737).map lr) := by
  apply (List.perm_ext_iff_of_nodup (nd_map (g := cn) fun x hx => (lc_ok hx).2) (nd_map (g := rn) fun x hx => (lr_ok hx).2)).mpr
  intro l
  have h1 : l ∈ (List.range 7737).map lc ↔ okL l := by
    rw [List.mem_map]
    constructor
    · rintro ⟨x, hx, rfl⟩
      exact (lc_ok (List.mem_range.mp hx)).1
    · intro h
      exact ⟨cn l, List.mem_range.mpr (cn_lt h), cn_inj (lc_ok (cn_lt h)).1 h (lc_ok (cn_lt h)).2⟩
  have h2 : l ∈ (List.range 7737).map lr ↔ okL l := by
    rw [List.mem_map]
    constructor
    · rintro ⟨x, hx, rfl⟩
      exact (lr_ok (List.mem_range.mp hx)).1
    · intro h
      exact ⟨rn l, List.mem_range.mpr (rn_lt h), rn_inj (lr_ok (rn_lt h)).1 h (lr_ok (rn_lt h)).2⟩
  rw [h1, h2]
/-- lines that differ are at most so many -/
theorem nd_sub {α : Type} [DecidableEq α] : ∀ (l m : List α), l.Nodup → (∀ x ∈ l, x ∈ m) → l.length ≤ m.length
  | [], m, _, _ => Nat.zero_le _
  | x :: l, m, h, hs => by
    have hx := hs x (List.mem_cons_self)
    have h' := List.nodup_cons.mp h
    have := nd_sub l (m.erase x) h'.2 (fun y hy => (List.mem_erase_of_ne (fun (e : y = x) => h'.1 (e ▸ hy))).mpr (hs y (List.mem_cons_of_mem _ hy)))
    rw [List.length_erase_of_mem hx] at this
    have := List.length_pos_of_mem hx
    rw [List.length_cons]
    omega
theorem nd_len {q : List Ln} (h : q.Nodup) (ho : ∀ l ∈ q, okL l) : q.length ≤ 7737 := by
  have := nd_sub q ((List.range 7737).map lc) h (fun l hl => List.mem_map.mpr ⟨cn l, List.mem_range.mpr (cn_lt (ho l hl)), cn_inj (lc_ok (cn_lt (ho l hl))).1 (ho l hl) (lc_ok (cn_lt (ho l hl))).2⟩)
  rw [List.length_map, List.length_range] at this
  exact this
theorem nd_snoc {q : List Ln} (h : q.Nodup) {l : Ln} (hl : ¬ l ∈ q) : (q ++ [l]).Nodup := List.nodup_append.mpr ⟨h, List.nodup_cons.mpr ⟨List.not_mem_nil, List.nodup_nil⟩, fun a ha b hb e => hl (by rw [List.mem_singleton] at hb; rw [← hb, ← e]; exact ha)⟩
theorem ok_snoc {q : List Ln} (h : ∀ l ∈ q, okL l) {l : Ln} (hl : okL l) : ∀ m ∈ q ++ [l], okL m := fun m hm => by
  rcases List.mem_append.mp hm with z | z
  · exact h m z
  · rw [List.mem_singleton.mp z]; exact hl
theorem nd_lt {q : List Ln} (h : q.Nodup) (ho : ∀ l ∈ q, okL l) {l : Ln} (hl : okL l) (hn : ¬ l ∈ q) : q.length < 7737 := by
  have := nd_len (nd_snoc h hn) (ok_snoc ho hl)
  rw [List.length_append] at this
  exact this
/-- what a key makes of a line -/
def go (c : List Mac) (k : Nat) (l : Ln) : Ln := (keyE (ef c) k (l, 0)).1
theorem go_ok {c : List Mac} (hc : okC c) {k : Nat} (hk : k < 8 + c.length) {l : Ln} (hl : okL l) : okL (go c k l) := (keyE_ok hc (by have := hc.1; omega) (p := (l, 0)) hl).1
theorem go_p (c : List Mac) {k : Nat} (hk : k < 8) (l : Ln) : go c k l = act k l := by unfold go keyE; rw [if_pos hk]
theorem go_m (c : List Mac) (i : Nat) (l : Ln) : go c (8 + i) l = (ef c i l).1 := by unfold go keyE; rw [if_neg (by omega), show 8 + i - 8 = i by omega]
theorem lineAfter_ok {N : Nat} (hN : 8 ≤ N) {S : St} {c : List Mac} (hK : KC S c) {l : Ln} (hl : okL l) {k : Nat} (hk : k < 8 + c.length) : ∃ S', f_X0_lineAfter N S (nI (cn l)) (nI k) = some (nI (cn (go c k l)), S') ∧ KC S' c ∧ fr3 S S' := by
  have h3 := hK.1.1
  obtain ⟨S1, b1, b2, b3⟩ := eff5 hN hK.1 S l k hK hl (by omega) hk
  have hke := keyE_ok hK.1 (k := k) (by omega) (p := (l, 0)) hl
  refine ⟨S1, ?_, b2, b3⟩
  rw [f_X0_lineAfter, b1, cal_s, lineOf_pk N S1 hke.1 (by have := hke.2; dsimp only at this; omega), cal_s]
  rfl
/-- a number told is a key, or not -/
theorem is_key (c : List Mac) (hc : okC c) (x : Int32) : (x < 0 ∨ nI (8 + c.length) ≤ x) ∨ ∃ k, x = nI k ∧ k < 8 + c.length := by
  have := hc.1
  rcases pk_ix x (n := 8 + c.length) (by omega) with h | h | ⟨j, h1, h2⟩
  · exact Or.inl (Or.inl h)
  · exact Or.inl (Or.inr h)
  · exact Or.inr ⟨j, h2, h1⟩
theorem isKey_no (N : Nat) {c : List Mac} {x : Int32} (hx : x < 0 ∨ nI (8 + c.length) ≤ x) : (∀ S, CfC S c → f_X0_isKey N S x = some (nI 0, S)) ∧ ∀ S, CfM S c → f_X7_isKey N S x = some (nI 0, S) := by
  constructor
  · intro S h
    rw [f_X0_isKey]
    by_cases c1 : x < 0
    · rw [if_pos c1]
    · rw [if_neg c1, f_X0_keysThereAre, cal_s, h.1, n_add, if_pos (hx.resolve_left c1)]
  · intro S h
    rw [f_X7_isKey]
    by_cases c1 : x < 0
    · rw [if_pos c1]
    · rw [if_neg c1, f_X7_keysThere, cal_s, h.1, n_add, if_pos (hx.resolve_left c1)]
theorem isKey_ok (N : Nat) {c : List Mac} (hc : okC c) {k : Nat} (hk : k < 8 + c.length) : (∀ S, CfC S c → f_X0_isKey N S (nI k) = some (nI 1, S)) ∧ ∀ S, CfM S c → f_X7_isKey N S (nI k) = some (nI 1, S) := by
  have := hc.1
  constructor
  · intro S h
    rw [f_X0_isKey, if_neg (nI_pos (by omega)), f_X0_keysThereAre, cal_s, h.1, n_add, if_neg (nI_ge hk (by omega))]
  · intro S h
    rw [f_X7_isKey, if_neg (nI_pos (by omega)), f_X7_keysThere, cal_s, h.1, n_add, if_neg (nI_ge hk (by omega))]
