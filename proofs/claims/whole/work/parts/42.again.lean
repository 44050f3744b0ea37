/-! again -/
theorem n_9 {a : Nat} (h : a < 2147483648) : ¬ nI a = (-9 : Int32) := n_neg 9 a (by decide) (by decide) h
def frS (S S' : St) : Prop := ∀ k, k ≠ 3 → k ≠ 6 → k ≠ 7 → k ≠ 8 → S' k = S k
theorem frS.rf (S : St) : frS S S := fun _ _ _ _ _ => rfl
theorem frS.tr {S T U : St} (h : frS S T) (g : frS T U) : frS S U := fun k a b c d => (g k a b c d).trans (h k a b c d)
theorem fr3.S {S S' : St} (h : fr3 S S') : frS S S' := fun k a _ _ _ => h k a
theorem frS.st {q : Nat} (hq : q = 6 ∨ q = 7 ∨ q = 8) (S : St) (x : Nat) (v : Int32) : frS S (st S q x v) := fun k _ b c d => st_ne (by omega)
theorem frS.C {S S' : St} (h : frS S S') : frC S S' := fun k hk => h k (by omega) (by omega) (by omega) (by omega)
theorem KC.S {S S' : St} {c : List Mac} (h : KC S c) (hf : ∀ k, k ≠ 6 → k ≠ 7 → k ≠ 8 → S' k = S k) : KC S' c := h.eq (hf 1 (by decide) (by decide) (by decide)) (hf 3 (by decide) (by decide) (by decide)) (fun i hi => ⟨hf _ (by omega) (by omega) (by omega), hf _ (by omega) (by omega) (by omega)⟩)
theorem RC.ofS {S S' : St} {a : Ab} (h : RC S a) (hK : KC S' a.1) (hf : frS S S') : RC S' a := by
  obtain ⟨k0, k1, k2, k3, k4, k5, k6, k7, k8⟩ := h
  have h0 := hf 0 (by decide) (by decide) (by decide) (by decide)
  refine ⟨k0, hK, h0 ▸ k2, h0 ▸ k3, h0 ▸ k4, h0 ▸ k5, ⟨h0 ▸ k6.1, fun r q hq => ?_⟩, fun j hj => ?_, ?_⟩
  · rw [hf 10 (by decide) (by decide) (by decide) (by decide), hf 11 (by decide) (by decide) (by decide) (by decide)]; exact k6.2 r q hq
  · rw [hf (12 + j) (by omega) (by omega) (by omega) (by omega), hf (16 + j) (by omega) (by omega) (by omega) (by omega)]; exact k7 j hj
  · rw [hf 4 (by decide) (by decide) (by decide) (by decide)]; exact k8
/-- what the reference's searches may change -/
def frQ (S S' : St) : Prop := ∀ k, k ≠ 50 → k ≠ 51 → S' k = S k
theorem frQ.rf (S : St) : frQ S S := fun _ _ _ => rfl
theorem frQ.tr {S T U : St} (h : frQ S T) (g : frQ T U) : frQ S U := fun k a b => (g k a b).trans (h k a b)
theorem frQ.M {S S' : St} (h : frQ S S') : frM S S' := fun k hk => h k (by omega) (by omega)
theorem frQ.st {q : Nat} (hq : q = 50 ∨ q = 51) (S : St) (x : Nat) (v : Int32) : frQ S (st S q x v) := fun k a b => st_ne (by omega)
theorem RM.Q {S S' : St} {a : Ab} (h : RM S a) (hf : frQ S S') : RM S' a := by
  have h0 := hf 32 (by decide) (by decide)
  have := h.re (S' := S') (fun k hk => hf k (by omega) (by omega)) (by rw [h0]; exact ⟨rfl, rfl, rfl, rfl⟩) h.1.2.1 (h0 ▸ h.2.2.1) (h0 ▸ h.2.2.2.1) (h0 ▸ h.2.2.2.2.1) (h0 ▸ h.2.2.2.2.2.1)
  exact this
theorem mkT.Q {S S' : St} {c : List Mac} {b : Nat} (h : mkT S c b) (hf : S' 49 = S 49) : mkT S' c b := fun k l hk hl => by rw [hf]; exact h k l hk hl
/-- a line's place among those that were: 1 above it, 0 if it was not -/
def ix (h : List Ln) (l : Ln) : Nat := if l ∈ h then 1 + h.idxOf l else 0
theorem ix_snoc {h : List Ln} {l : Ln} (hl : ¬ l ∈ h) (m : Ln) : ix (h ++ [l]) m = if m = l then h.length + 1 else ix h m := by
  unfold ix
  by_cases e : m = l
  · subst e
    rw [if_pos (List.mem_append_right _ (List.mem_singleton.mpr rfl)), if_pos rfl, List.idxOf_append, if_neg hl, List.idxOf_cons_self]
    omega
  · rw [if_neg e]
    by_cases hm : m ∈ h
    · rw [if_pos (List.mem_append_left _ hm), if_pos hm, List.idxOf_append, if_pos hm]
    · rw [if_neg hm, if_neg (fun z => (List.mem_append.mp z).elim hm (fun w => e (List.mem_singleton.mp w)))]
theorem ix_0 {h : List Ln} {l : Ln} (hl : ¬ l ∈ h) : ix h l = 0 := if_neg hl
theorem ix_in {h : List Ln} {l : Ln} (hl : l ∈ h) : ix h l ≠ 0 ∧ ix h l ≤ h.length := by
  unfold ix
  rw [if_pos hl]
  have := List.idxOf_lt_length_iff.mpr hl
  omega
/-- on and on, until a line comes again -/
def rnd (f : Ln → Ln) : Nat → List Ln → Ln → List Ln × Ln
  | 0, h, l => (h, l)
  | d + 1, h, l => if l ∈ h then (h, l) else rnd f d (h ++ [l]) (f l)
theorem rnd_in {f : Ln → Ln} (hf : ∀ l, okL l → okL (f l)) : ∀ (d : Nat) (h : List Ln) (l : Ln), h.length + d = 7738 → h.Nodup → (∀ m ∈ h, okL m) → okL l → (rnd f d h l).2 ∈ (rnd f d h l).1 ∧ (rnd f d h l).1.length ≤ 7737 := by
  intro d
  induction d with
  | zero => intro h l hd hn ho _; have := nd_len hn ho; omega
  | succ d ih =>
    intro h l hd hn ho hl
    unfold rnd
    by_cases e : l ∈ h
    · rw [if_pos e]; exact ⟨e, nd_len hn ho⟩
    · rw [if_neg e]
      exact ih (h ++ [l]) (f l) (by rw [List.length_append]; show h.length + 1 + d = 7738; omega) (nd_snoc hn e) (ok_snoc ho hl) (hf l hl)
theorem playOn_l {N : Nat} (hN : 8 ≤ N) {c : List Mac} (hc : okC c) {i : Nat} (hi : i < c.length) : ∀ (d : Nat) (h : List Ln) (l : Ln) (g : Nat) (S : St), h.length + d = 7738 → d ≤ g → h.Nodup → (∀ m ∈ h, okL m) → okL l → KC S c → S 6 2 = nI h.length → (∀ m, okL m → S 8 (cn m) = nI (ix h m)) → ∃ S', f_X4_playOn_16 N g S (nI i) (nI (cn l)) = some (nI (cn (rnd (go c (8 + i)) d h l).2), S') ∧ KC S' c ∧ frS S S' ∧ S' 6 2 = nI (rnd (go c (8 + i)) d h l).1.length ∧ S' 8 (cn (rnd (go c (8 + i)) d h l).2) = nI (ix (rnd (go c (8 + i)) d h l).1 (rnd (go c (8 + i)) d h l).2) := by
  have h3 := hc.1
  intro d
  induction d with
  | zero => intro h l g S hd _ hn ho _; have := nd_len hn ho; omega
  | succ d ih =>
    intro h l g S hd hg hn ho hl hK h62 h8
    obtain ⟨g, rfl⟩ : ∃ e, g = e + 1 := ⟨g - 1, by omega⟩
    have hcl := cn_lt hl
    have hlen := nd_len hn ho
    have hin : inb (nI (cn l)) 7737 = true := (inb_i (by omega)).mpr hcl
    rw [f_X4_playOn_16, isLine_ok N S hcl, cal_s, if_neg (by decide), if_pos hin, n_cl (by omega), h8 l hl]
    unfold rnd
    by_cases e : l ∈ h
    · have hx := ix_in e
      rw [if_pos e, if_neg (by rw [z_eq (by omega)]; exact hx.1)]
      exact ⟨S, rfl, hK, frS.rf S, h62, h8 l hl⟩
    · have hlt := nd_lt hn ho hl e
      rw [if_neg e, ix_0 e, if_pos nI_0, h62, if_neg (nI_ge (by omega) (by omega)), bnd_e, if_pos hin, bnd_e, st_s, n_add]
      have hK2 : KC (st (st S 6 2 (nI (h.length + 1))) 8 (cn l) (nI (h.length + 1))) c := hK.S (fun k a _ b => by rw [st_ne b, st_ne a])
      obtain ⟨S1, b1, b2, b3⟩ := lineAfter_ok hN hK2 hl (k := 8 + i) (by omega)
      have hgo := go_ok hc (k := 8 + i) (by omega) hl
      obtain ⟨S', q1, q2, q3, q4⟩ := ih (h ++ [l]) (go c (8 + i) l) g S1 (by rw [List.length_append]; show h.length + 1 + d = 7738; omega) (by omega) (nd_snoc hn e) (ok_snoc ho hl) hgo b2 (by rw [b3 6 (by decide), st_ne (by decide), st_s, List.length_append]; rfl) (fun m hm => by
        rw [b3 8 (by decide), ix_snoc e]
        by_cases em : m = l
        · rw [if_pos em, em, st_s]
        · rw [if_neg em, st_n (fun z => em (cn_inj hm hl z)), st_ne (by decide)]
          exact h8 m hm)
      refine ⟨S', ?_, q2, (((frS.st (by decide) _ _ _).tr (frS.st (by decide) _ _ _)).tr b3.S).tr q3, q4⟩
      rw [n_add, b1, cal_s, q1]
theorem playOn_ok {N : Nat} (hN : 7740 ≤ N) {c : List Mac} {S : St} (hK : KC S c) {i : Nat} (hi : i < c.length) {l : Ln} (hl : okL l) : ∃ S', f_X4_playOn N S (nI (cn l)) (nI i) = some (nI (cn (rnd (go c (8 + i)) 7738 [] l).2), S') ∧ KC S' c ∧ frS S S' ∧ S' 6 2 = nI (rnd (go c (8 + i)) 7738 [] l).1.length ∧ S' 8 (cn (rnd (go c (8 + i)) 7738 [] l).2) = nI (ix (rnd (go c (8 + i)) 7738 [] l).1 (rnd (go c (8 + i)) 7738 [] l).2) := by
  obtain ⟨S1, b1, b2, b3⟩ := fill_all (N := N) 8 7737 (nI 0) (by omega) (by omega) S
  have hf : ∀ k, k ≠ 6 → k ≠ 7 → k ≠ 8 → st S1 6 2 (nI 0) k = S k := fun k h6 _ h8 => (st_ne h6).trans (b2 k h8)
  obtain ⟨S', q1, q2, q3, q4⟩ := playOn_l (N := N) (by omega) hK.1 hi 7738 [] l N (st S1 6 2 (nI 0)) rfl (by omega) List.nodup_nil (fun m hm => absurd hm List.not_mem_nil) hl (hK.S hf) st_s (fun m hm => by
    rw [st_ne (by decide), b3, if_pos (cn_lt hm)]; rfl)
  refine ⟨S', ?_, q2, frS.tr (fun k _ a b c => hf k a b c) q3, q4⟩
  rw [f_X4_playOn, b1, cal_s, bnd_e, q1]
theorem again_l {N : Nat} {c : List Mac} (hc : okC c) {i : Nat} (hi : i < c.length) (w : Int32) : ∀ (d : Nat) (h : List Ln) (l : Ln) (g : Nat) (S : St), h.length + d = 7738 → d ≤ g → h.Nodup → (∀ m ∈ h, okL m) → okL l → mkT S c (8 + c.length) → (∀ m, okL m → S 51 (rn m) = if m ∈ h then nI (h.idxOf m) else -9) → ∃ S', f_X7_again_57 N g S (nI i) w (nI (rn l)) (nI h.length) = some (if w = 0 then nI ((rnd (go c (8 + i)) d h l).1.idxOf (rnd (go c (8 + i)) d h l).2) else nI ((rnd (go c (8 + i)) d h l).1.length - (rnd (go c (8 + i)) d h l).1.idxOf (rnd (go c (8 + i)) d h l).2), S') ∧ frQ S S' := by
  have h3 := hc.1
  intro d
  induction d with
  | zero => intro h l g S hd _ hn ho _; have := nd_len hn ho; omega
  | succ d ih =>
    intro h l g S hd hg hn ho hl hT h51
    obtain ⟨g, rfl⟩ : ∃ e, g = e + 1 := ⟨g - 1, by omega⟩
    have hcl := rn_lt hl
    have hlen := nd_len hn ho
    have hin : inb (nI (rn l)) 7737 = true := (inb_i (by omega)).mpr hcl
    rw [f_X7_again_57, if_pos hin, n_cl (by omega), h51 l hl]
    unfold rnd
    by_cases e : l ∈ h
    · have hx := List.idxOf_lt_length_iff.mpr e
      rw [if_pos e, if_pos e, if_neg (n_9 (a := List.idxOf l h) (by omega)), n_sub (by omega), if_pos hin, if_pos hin]
      refine ⟨S, ?_, frQ.rf S⟩
      by_cases hw : w = 0
      · rw [if_pos hw, if_pos hw]
      · rw [if_neg hw, if_neg hw]
    · have hlt := nd_lt hn ho hl e
      have hgo := go_ok hc (k := 8 + i) (by omega) hl
      rw [if_neg e, if_pos rfl, if_pos hin, bnd_e, bnd_e, n_add, n_mul, n_add, if_pos ((inb_i (by omega)).mpr (by omega)), bnd_e, n_cl (by omega), st_ne (by decide), hT (8 + i) l (by omega) hl, n_add, if_neg e]
      obtain ⟨S', q1, q2⟩ := ih (h ++ [l]) (go c (8 + i) l) g (st S 51 (rn l) (nI h.length)) (by rw [List.length_append]; show h.length + 1 + d = 7738; omega) (by omega) (nd_snoc hn e) (ok_snoc ho hl) hgo (hT.Q (st_ne (by decide))) (fun m hm => by
        by_cases em : m = l
        · rw [em, st_s, if_pos (List.mem_append_right _ (List.mem_singleton.mpr rfl)), List.idxOf_append, if_neg e, List.idxOf_cons_self, Nat.zero_add]
        · rw [st_n (fun z => em (rn_inj hm hl z)), h51 m hm]
          by_cases hm2 : m ∈ h
          · rw [if_pos hm2, if_pos (List.mem_append_left _ hm2), List.idxOf_append, if_pos hm2]
          · rw [if_neg hm2, if_neg (fun z => (List.mem_append.mp z).elim hm2 (fun w => em (List.mem_singleton.mp w)))])
      refine ⟨S', ?_, (frQ.st (by decide) _ _ _).tr q2⟩
      rw [List.length_append] at q1
      exact q1
theorem again_f {N : Nat} {v w : Int32} : ∀ (d x g : Nat) (S : St), x + d = 7737 → d < g → ∃ S', f_X7_again_28 N g S v w (nI x) = f_X7_again_57 N N S' v w (S' 32 7) (nI 0) ∧ (∀ k, k ≠ 51 → S' k = S k) ∧ (∀ y, x ≤ y → y < 7737 → S' 51 y = -9) ∧ ∀ y, y < x → S' 51 y = S 51 y := by
  intro d
  induction d with
  | zero =>
    intro x g S hx hg
    obtain ⟨g, rfl⟩ : ∃ e, g = e + 1 := ⟨g - 1, by omega⟩
    exact ⟨S, by rw [f_X7_again_28, if_pos (nI_le (by omega) (by omega)), bnd_e, bnd_e], fun _ _ => rfl, fun y h1 h2 => by omega, fun _ _ => rfl⟩
  | succ d ih =>
    intro x g S hx hg
    obtain ⟨g, rfl⟩ : ∃ e, g = e + 1 := ⟨g - 1, by omega⟩
    obtain ⟨S', b1, b2, b3, b4⟩ := ih (x + 1) g (st S 51 x (-9)) (by omega) (by omega)
    refine ⟨S', ?_, fun k hk => (b2 k hk).trans (st_ne hk), fun y h1 h2 => ?_, fun y hy => by rw [b4 y (by omega), st_n (by omega)]⟩
    · rw [f_X7_again_28, if_neg (nI_ge (by omega) (by omega)), if_pos ((inb_i (by omega)).mpr (by omega)), n_cl (by omega), bnd_e, bnd_e, n_add, b1]
    · by_cases e : y = x
      · subst e; rw [b4 y (by omega), st_s]
      · exact b3 y (by omega) h2
theorem b_again {N : Nat} (hN : 7740 ≤ N) (x y : Int32) : Both (fun S => f_X6_again N S x y) (fun S => f_X7_again N S x y) := by
  refine Both.of fun a ha => ?_
  have h3 := ha.1.1
  rcases is_mac a.1 ha.1 x with hx | ⟨i, m, rfl, hm⟩
  · refine ⟨-1, a, fun S hC => ⟨S, ?_, hC, frC.rf S⟩, fun S hM => ⟨S, ?_, hM, frM.rf S⟩⟩
    · show f_X6_again N S x y = _
      rw [f_X6_again, macroOf_no N hC.2.1 x hx, cal_s, opt_0]
    · show f_X7_again N S x y = _
      rw [f_X7_again, isMacro_no N hM.2.1 x hx, cal_s, if_pos nI_0]
  have hi := mac_lt hm
  by_cases hy : y = 0 ∨ y = nI 1
  · have hgo : ∀ l, okL l → okL (go a.1 (8 + i) l) := fun l hl => go_ok ha.1 (by omega) hl
    obtain ⟨r1, r2⟩ := rnd_in hgo 7738 [] a.2.1 rfl List.nodup_nil (fun m hm => absurd hm List.not_mem_nil) ha.2.1
    have hx := ix_in r1
    have hxe : ix (rnd (go a.1 (8 + i)) 7738 [] a.2.1).1 (rnd (go a.1 (8 + i)) 7738 [] a.2.1).2 = 1 + (rnd (go a.1 (8 + i)) 7738 [] a.2.1).1.idxOf (rnd (go a.1 (8 + i)) 7738 [] a.2.1).2 := if_pos r1
    have hok : okL (rnd (go a.1 (8 + i)) 7738 [] a.2.1).2 := by
      have : ∀ (d : Nat) (h : List Ln) (l : Ln), okL l → okL (rnd (go a.1 (8 + i)) d h l).2 := by
        intro d
        induction d with
        | zero => intro h l hl; exact hl
        | succ d ih =>
          intro h l hl
          unfold rnd
          by_cases e : l ∈ h
          · rw [if_pos e]; exact hl
          · rw [if_neg e]; exact ih _ _ (hgo l hl)
      exact this _ _ _ ha.2.1
    have hcl := cn_lt hok
    refine ⟨if y = 0 then nI ((rnd (go a.1 (8 + i)) 7738 [] a.2.1).1.idxOf (rnd (go a.1 (8 + i)) 7738 [] a.2.1).2) else nI ((rnd (go a.1 (8 + i)) 7738 [] a.2.1).1.length - (rnd (go a.1 (8 + i)) 7738 [] a.2.1).1.idxOf (rnd (go a.1 (8 + i)) 7738 [] a.2.1).2), a, fun S hC => ?_, fun S hM => ?_⟩
    · obtain ⟨S', b1, b2, b3, b4, b5⟩ := playOn_ok hN hC.2.1 hi ha.2.1
      refine ⟨S', ?_, hC.ofS b2 b3, b3.C⟩
      show f_X6_again N S (nI i) y = _
      rw [f_X6_again, macroOf_ok N hC.2.1 hi, cal_s, opt_1, if_pos (by omega)]
      have h25 : f_X6_again_25 N S (nI i) y = some (if y = 0 then nI ((rnd (go a.1 (8 + i)) 7738 [] a.2.1).1.idxOf (rnd (go a.1 (8 + i)) 7738 [] a.2.1).2) else nI ((rnd (go a.1 (8 + i)) 7738 [] a.2.1).1.length - (rnd (go a.1 (8 + i)) 7738 [] a.2.1).1.idxOf (rnd (go a.1 (8 + i)) 7738 [] a.2.1).2), S') := by
        have hpt : f_X4_playsTo N S' (nI (cn (rnd (go a.1 (8 + i)) 7738 [] a.2.1).2)) = some (nI ((rnd (go a.1 (8 + i)) 7738 [] a.2.1).1.idxOf (rnd (go a.1 (8 + i)) 7738 [] a.2.1).2), S') := by
          rw [f_X4_playsTo, isLine_ok N S' hcl, cal_s, if_neg (by decide), if_pos ((inb_i (by omega)).mpr hcl), n_cl (by omega), b5, hxe, n_sub (by omega), Nat.add_sub_cancel_left]
        rw [f_X6_again_25, hC.2.2.1, f_X4_aheadOfRound, f_X4_round, b1]
        simp only [cal_s, hpt]
        rw [b4, n_sub (by omega)]
        by_cases hw : y = 0
        · rw [if_pos hw, if_pos hw]
        · rw [if_neg hw, if_neg hw]
      by_cases hw : y = 0
      · rw [if_pos hw, h25]
      · rw [if_neg hw, if_pos (hy.resolve_left hw), h25]
    · obtain ⟨S1, b1, b2, b3, b4⟩ := findMakes_ok hN hM
      obtain ⟨S2, d1, d2, d3, d4⟩ := again_f (N := N) (v := nI i) (w := y) 7737 0 N S1 (by omega) (by omega)
      obtain ⟨S3, e1, e2⟩ := again_l (N := N) ha.1 hi y 7738 [] a.2.1 N S2 rfl (by omega) List.nodup_nil (fun m hm => absurd hm List.not_mem_nil) ha.2.1 (b4.Q (d2 49 (by decide))) (fun m hm => by rw [d3 _ (Nat.zero_le _) (rn_lt hm), if_neg List.not_mem_nil])
      have hq : frQ S1 S3 := frQ.tr (fun k _ h => d2 k h) e2
      refine ⟨S3, ?_, b2.Q hq, b3.tr hq.M⟩
      show f_X7_again N S (nI i) y = _
      have hwi : f_X7_within N S y (nI 0) (nI 1) = some (nI 1, S) := by
        rcases hy with rfl | rfl
        · exact within_in N S (j := 0) (lo := 0) (hi := 1) (by decide) (by decide) (by decide)
        · exact within_in N S (j := 1) (lo := 0) (hi := 1) (by decide) (by decide) (by decide)
      rw [f_X7_again, isMacro_ok N ha.1 hM.2.1 hi, cal_s, if_neg (by decide), hwi, cal_s, if_neg (by decide), b1, cal_s, bnd_e, d1, d2 32 (by decide), b2.2.2.1]
      exact e1
  · refine ⟨-2, a, fun S hC => ⟨S, ?_, hC, frC.rf S⟩, fun S hM => ⟨S, ?_, hM, frM.rf S⟩⟩
    · show f_X6_again N S (nI i) y = _
      rw [f_X6_again, macroOf_ok N hC.2.1 hi, cal_s, opt_1, if_pos (by omega), if_neg (fun z => hy (Or.inl z)), if_neg (fun z => hy (Or.inr z))]
    · show f_X7_again N S (nI i) y = _
      have hwi : f_X7_within N S y (nI 0) (nI 1) = some (nI 0, S) := by
        apply within_no
        by_cases c1 : y < nI 0
        · exact Or.inl c1
        · by_cases c2 : nI 1 < y
          · exact Or.inr c2
          · obtain ⟨j, j1, j2, rfl⟩ := rng (lo := 0) (hi := 1) (by decide) (by decide) c1 c2
            exfalso
            rcases (show j = 0 ∨ j = 1 by omega) with rfl | rfl
            · exact hy (Or.inl rfl)
            · exact hy (Or.inr rfl)
      rw [f_X7_again, isMacro_ok N ha.1 hM.2.1 hi, cal_s, if_neg (by decide), hwi, cal_s, if_pos nI_0]
