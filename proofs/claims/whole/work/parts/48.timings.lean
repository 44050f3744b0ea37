/-! timings, kinds -/
def soE (c : List Mac) : List (Nat × Nat) → Bool
  | [] => true
  | q :: rd => decide ((ef c q.1 (0, 0, 0)).1.1 = q.2) && soE c rd
theorem soC {N : Nat} (hN : 8 ≤ N) {c : List Mac} {rd : List (Nat × Nat)} (hrd : rd.length ≤ 8 ∧ ∀ q ∈ rd, q.1 < c.length ∧ q.2 ≤ 5) : ∀ (suf : List (Nat × Nat)) (r g : Nat) (S : St), r + suf.length = rd.length → (∀ p q, suf[p]? = some q → rd[r + p]? = some q) → suf.length < g → KC S c → RdC S rd → ∃ S', f_X6_readingsAreSo_2 N g S (nI r) = some (nI (b01 (soE c suf)), S') ∧ KC S' c ∧ fr3 S S' := by
  intro suf
  induction suf with
  | nil =>
    intro r g S hr hs hg hK hR
    obtain ⟨g, rfl⟩ : ∃ e, g = e + 1 := ⟨g - 1, by omega⟩
    rw [List.length_nil] at hr
    exact ⟨S, by rw [f_X6_readingsAreSo_2, hR.1, if_pos (nI_le (by omega) (by omega))]; rfl, hK, fr3.rf S⟩
  | cons q suf ih =>
    intro r g S hr hs hg hK hR
    obtain ⟨g, rfl⟩ : ∃ e, g = e + 1 := ⟨g - 1, by omega⟩
    rw [List.length_cons] at hr hg
    have h3 := hK.1.1
    have hq := hs 0 q rfl
    rw [Nat.add_zero] at hq
    obtain ⟨q1, q2⟩ := hrd.2 q (List.mem_of_getElem? hq)
    obtain ⟨r1, r2⟩ := hR.2 r q hq
    obtain ⟨S1, b1, b2, b3⟩ := lineAfter_ok hN hK e_ok (k := 8 + q.1) (by omega)
    have hgo := go_ok hK.1 (k := 8 + q.1) (by omega) e_ok
    have b1 : f_X0_lineAfter N S (nI 0) (nI (8 + q.1)) = _ := b1
    have hin : inb (nI r) 8 = true := (inb_i (by omega)).mpr (by omega)
    have hcl : (go c (8 + q.1) (0, 0, 0)).1 ≤ 5 := hgo.1
    rw [f_X6_readingsAreSo_2, hR.1, if_neg (nI_ge (by omega) (by omega)), if_neg (nI_ge (by omega) (by omega)), if_pos hin, n_cl (by omega), r1, n_add, b1, cal_s, countOf_ok (by omega) S1 hgo, cal_s, if_pos hin, b3 11 (by decide), r2, bnd_e, n_add]
    unfold soE
    rw [go_m] at hcl ⊢
    by_cases e : (ef c q.1 (0, 0, 0)).1.1 = q.2
    · rw [if_pos (by rw [e]), decide_eq_true e, Bool.true_and]
      obtain ⟨S', d1, d2, d3⟩ := ih (r + 1) g S1 (by omega) (fun p z hz => by rw [show r + 1 + p = r + (p + 1) by omega]; exact hs (p + 1) z hz) (by omega) b2 (by unfold RdC; rw [b3 0 (by decide), b3 10 (by decide), b3 11 (by decide)]; exact hR)
      exact ⟨S', d1, d2, b3.tr d3⟩
    · rw [if_neg (by rw [n_eq (by omega) (by omega)]; exact e), decide_eq_false e]
      exact ⟨S1, rfl, b2, b3⟩
theorem areSoC_ok {N : Nat} (hN : 10 ≤ N) {c : List Mac} {rd : List (Nat × Nat)} (hrd : rd.length ≤ 8 ∧ ∀ q ∈ rd, q.1 < c.length ∧ q.2 ≤ 5) {S : St} (hK : KC S c) (hR : RdC S rd) : ∃ S', f_X6_readingsAreSo N S = some (nI (b01 (soE c rd)), S') ∧ KC S' c ∧ fr3 S S' := by
  obtain ⟨S', b⟩ := soC (N := N) (by omega) hrd rd 0 N S (by omega) (fun p q h => by rw [Nat.zero_add]; exact h) (by omega) hK hR
  exact ⟨S', by rw [f_X6_readingsAreSo, bnd_e]; exact b.1, b.2⟩
theorem soM {N : Nat} (hN : 15100 ≤ N) {c : List Mac} (hc : okC c) {rd : List (Nat × Nat)} (hrd : rd.length ≤ 8 ∧ ∀ q ∈ rd, q.1 < c.length ∧ q.2 ≤ 5) : ∀ (suf : List (Nat × Nat)) (r g : Nat) (S : St), r + suf.length = rd.length → (∀ p q, suf[p]? = some q → rd[r + p]? = some q) → suf.length < g → CfM S c → RdM S rd → ∃ S', f_X7_areSo_2 N g S (nI r) = some (nI (b01 (soE c suf)), S') ∧ frP 0 S S' := by
  have h3 := hc.1
  intro suf
  induction suf with
  | nil =>
    intro r g S hr hs hg hM hR
    obtain ⟨g, rfl⟩ : ∃ e, g = e + 1 := ⟨g - 1, by omega⟩
    rw [List.length_nil] at hr
    exact ⟨S, by rw [f_X7_areSo_2, hR.1, if_pos (nI_le (by omega) (by omega))]; rfl, frP.rf 0 S⟩
  | cons q suf ih =>
    intro r g S hr hs hg hM hR
    obtain ⟨g, rfl⟩ : ∃ e, g = e + 1 := ⟨g - 1, by omega⟩
    rw [List.length_cons] at hr hg
    have hq := hs 0 q rfl
    rw [Nat.add_zero] at hq
    obtain ⟨q1, q2⟩ := hrd.2 q (List.mem_of_getElem? hq)
    obtain ⟨r1, r2⟩ := hR.2 r q hq
    obtain ⟨S1, a1, a2, a3, a4⟩ := workOn_ok (N := N) (by omega) S e_ok
    have a1 : f_X7_workOn N S (nI 0) = _ := a1
    obtain ⟨S2, b1, b2, b3, b4⟩ := plays_ok hN hc (hM.fr a3.P) a2 (i := q.1) q1
    have hf : frP 0 S S2 := a3.P.tr b4 (Nat.le_refl _)
    have hin : inb (nI r) 8 = true := (inb_i (by omega)).mpr (by omega)
    have hcl : (ef c q.1 (0, 0, 0)).1.1 ≤ 5 := b2.1.1
    rw [f_X7_areSo_2, hR.1, if_neg (nI_ge (by omega) (by omega)), a1, cal_s, if_pos hin, n_cl (by omega), a3.1 52 (by decide) (by decide), r1, b1, cal_s, if_pos hin, b2.2.1, hf.1 53 (by decide) (by decide) (by decide) (by decide) (by decide), r2, bnd_e, n_add]
    unfold soE
    by_cases e : (ef c q.1 (0, 0, 0)).1.1 = q.2
    · rw [if_pos (by rw [e]), decide_eq_true e, Bool.true_and]
      obtain ⟨S', d1, d3⟩ := ih (r + 1) g S2 (by omega) (fun p z hz => by rw [show r + 1 + p = r + (p + 1) by omega]; exact hs (p + 1) z hz) (by omega) (hM.fr hf) (by unfold RdM; rw [hf.2.1 32 (by decide) (by decide) (by decide), hf.1 52 (by decide) (by decide) (by decide) (by decide) (by decide), hf.1 53 (by decide) (by decide) (by decide) (by decide) (by decide)]; exact hR)
      exact ⟨S', d1, hf.tr d3 (Nat.le_refl _)⟩
    · rw [if_neg (by rw [n_eq (by omega) (by omega)]; exact e), decide_eq_false e]
      exact ⟨S2, rfl, hf⟩
theorem areSoM_ok {N : Nat} (hN : 15100 ≤ N) {c : List Mac} (hc : okC c) {rd : List (Nat × Nat)} (hrd : rd.length ≤ 8 ∧ ∀ q ∈ rd, q.1 < c.length ∧ q.2 ≤ 5) {S : St} (hM : CfM S c) (hR : RdM S rd) : ∃ S', f_X7_areSo N S = some (nI (b01 (soE c rd)), S') ∧ frP 0 S S' := by
  obtain ⟨S', b⟩ := soM hN hc hrd rd 0 N S (by omega) (fun p q h => by rw [Nat.zero_add]; exact h) (by omega) hM hR
  exact ⟨S', by rw [f_X7_areSo, bnd_e]; exact b.1, b.2⟩
/-- the numbers by which the readings are so, as bits -/
def bits (P : Nat → Bool) : Nat → Nat → Int32 → Int32
  | 0, _, s => s
  | d + 1, v, s => bits P d (v + 1) (if P v then s ||| ((nI 1) <<< (nI v &&& (31 : Int32))) else s ||| nI 0)
/-- what these calls may change of the class, of the reference -/
def frT (S S' : St) : Prop := ∀ k, k < 32 → k ≠ 3 → ¬ (20 ≤ k ∧ k < 23) → S' k = S k
theorem set_back {c : List Mac} {i : Nat} {m : Mac} (hm : c[i]? = some m) : c.set i m = c := by
  apply List.ext_getElem?
  intro e
  by_cases he : e = i
  · subst he
    rw [List.getElem?_set_self (mac_lt hm), hm]
  · rw [List.getElem?_set_ne (Ne.symm he)]
theorem timings_c {N : Nat} (hN : 23300 ≤ N) {c : List Mac} (hc : okC c) {i : Nat} {m : Mac} (hm : c[i]? = some m) {rd : List (Nat × Nat)} (hrd : rd.length ≤ 8 ∧ ∀ q ∈ rd, q.1 < c.length ∧ q.2 ≤ 5) : ∀ (d v g : Nat) (S : St) (w : Nat) (s : Int32), v + d = 4 → 1 ≤ v → d < g → KC S (c.set i (m.1, w, m.2.2)) → 1 ≤ w → w < 4 → RdC S rd → ∃ S', f_X6_timings_26 N g S (nI i) i (nI m.2.1) s (nI v) = some (bits (fun v => soE (c.set i (m.1, v, m.2.2)) rd) d v s, S') ∧ KC S' c ∧ (∀ k, k ≠ 3 → k ≠ 20 + i → S' k = S k) := by
  have h3 := hc.1
  have hi := mac_lt hm
  obtain ⟨m1, m2, m3, m4⟩ := hc.2 i m hm
  have hself : ∀ x : Mac, (c.set i x)[i]? = some x := fun x => List.getElem?_set_self hi
  intro d
  induction d with
  | zero =>
    intro v g S w s hv hv1 hg hK hw1 hw2 hR
    obtain ⟨g, rfl⟩ : ∃ e, g = e + 1 := ⟨g - 1, by omega⟩
    obtain ⟨S', b1, b2, b3⟩ := change_ok hN hK (hself _) (kd := m.1) (tm := m.2.1) m1 m2 m3
    have b2 : KC S' ((c.set i (m.1, w, m.2.2)).set i (m.1, m.2.1, m.2.2)) := b2
    rw [List.set_set, show ((m.1, m.2.1, m.2.2) : Mac) = m from rfl, set_back hm] at b2
    refine ⟨S', ?_, b2, b3⟩
    obtain ⟨f1, f2, f3, f4⟩ := hK.2.1.2 i _ (hself _)
    rw [f_X6_timings_26, if_pos (nI_lt (by omega) (by omega)), f1, b1, cal_s]
    rfl
  | succ d ih =>
    intro v g S w s hv hv1 hg hK hw1 hw2 hR
    obtain ⟨g, rfl⟩ : ∃ e, g = e + 1 := ⟨g - 1, by omega⟩
    obtain ⟨f1, f2, f3, f4⟩ := hK.2.1.2 i _ (hself _)
    obtain ⟨S1, b1, b2, b3⟩ := change_ok hN hK (hself _) (kd := m.1) (tm := v) (by omega) (by omega) (by omega)
    have b2 : KC S1 ((c.set i (m.1, w, m.2.2)).set i (m.1, v, m.2.2)) := b2
    rw [List.set_set] at b2
    have hR1 : RdC S1 rd := by unfold RdC; rw [b3 0 (by decide) (by omega), b3 10 (by decide) (by omega), b3 11 (by decide) (by omega)]; exact hR
    obtain ⟨S2, d1, d2, d3⟩ := areSoC_ok (N := N) (by omega) (c := c.set i (m.1, v, m.2.2)) (rd := rd) (by rw [List.length_set]; exact hrd) b2 hR1
    obtain ⟨S', e1, e2, e3⟩ := ih (v + 1) g S2 v (if soE (c.set i (m.1, v, m.2.2)) rd then s ||| ((nI 1) <<< (nI v &&& (31 : Int32))) else s ||| nI 0) (by omega) (by omega) (by omega) d2 (by omega) (by omega) (by unfold RdC; rw [d3 0 (by decide), d3 10 (by decide), d3 11 (by decide)]; exact hR1)
    refine ⟨S', ?_, e2, fun k h1 h2 => (e3 k h1 h2).trans ((d3 k h1).trans (b3 k h1 h2))⟩
    rw [f_X6_timings_26, if_neg (nI_nlt (by omega) (by omega)), f1, b1, cal_s, d1, cal_s, bnd_e, bnd_e, bnd_e, bnd_e, n_add]
    unfold bits
    cases hb : soE (c.set i (m.1, v, m.2.2)) rd
    · rw [hb] at e1
      rw [if_pos (by rfl)]; exact e1
    · rw [hb] at e1
      rw [if_neg (by decide)]; exact e1
theorem timings_m {N : Nat} (hN : 15100 ≤ N) {c : List Mac} (hc : okC c) {i : Nat} {m : Mac} (hm : c[i]? = some m) {rd : List (Nat × Nat)} (hrd : rd.length ≤ 8 ∧ ∀ q ∈ rd, q.1 < c.length ∧ q.2 ≤ 5) : ∀ (d v g : Nat) (S : St) (w : Nat) (s : Int32), v + d = 4 → 1 ≤ v → d < g → CfM S (c.set i (m.1, w, m.2.2)) → 1 ≤ w → w < 4 → RdM S rd → ∃ S', f_X7_timings_22 N g S (nI i) (nI m.2.1) s (nI v) = some (bits (fun v => soE (c.set i (m.1, v, m.2.2)) rd) d v s, S') ∧ CfM S' c ∧ (∀ k, k ≠ 32 → k ≠ 37 → k ≠ 45 → k ≠ 46 → k ≠ 47 → k ≠ 48 → S' k = S k) ∧ (∀ j, j ≠ 20 → j ≠ 21 → j ≠ 22 → S' 32 j = S 32 j) := by
  have h3 := hc.1
  have hi := mac_lt hm
  obtain ⟨m1, m2, m3, m4⟩ := hc.2 i m hm
  have hself : ∀ x : Mac, (c.set i x)[i]? = some x := fun x => List.getElem?_set_self hi
  have hst : ∀ (S : St) (w v : Nat), CfM S (c.set i (m.1, w, m.2.2)) → CfM (st S 37 i (nI v)) (c.set i (m.1, v, m.2.2)) := fun S w v h => by
    refine ⟨by rw [st_ne (by decide), List.length_set, h.1, List.length_set], fun e x hx => ?_⟩
    by_cases he : e = i
    · subst he
      rw [hself] at hx
      have := Option.some.inj hx
      subst this
      obtain ⟨f1, f2, f3, f4⟩ := h.2 e _ (hself _)
      exact ⟨by rw [st_ne (by decide)]; exact f1, st_s, by rw [st_ne (by decide)]; exact f3, fun j k hk => by rw [st_ne (by decide)]; exact f4 j k hk⟩
    · rw [List.getElem?_set_ne (Ne.symm he)] at hx
      obtain ⟨f1, f2, f3, f4⟩ := h.2 e x (by rw [List.getElem?_set_ne (Ne.symm he)]; exact hx)
      exact ⟨by rw [st_ne (by decide)]; exact f1, by rw [st_n he]; exact f2, by rw [st_ne (by decide)]; exact f3, fun j k hk => by rw [st_ne (by decide)]; exact f4 j k hk⟩
  intro d
  induction d with
  | zero =>
    intro v g S w s hv hv1 hg hM hw1 hw2 hR
    obtain ⟨g, rfl⟩ : ∃ e, g = e + 1 := ⟨g - 1, by omega⟩
    have b2 := hst S w m.2.1 hM
    have b2 : CfM (st S 37 i (nI m.2.1)) (c.set i (m.1, m.2.1, m.2.2)) := b2
    rw [show ((m.1, m.2.1, m.2.2) : Mac) = m from rfl, set_back hm] at b2
    refine ⟨st S 37 i (nI m.2.1), ?_, b2, fun k _ h _ _ _ _ => st_ne h, fun j _ _ _ => by rw [st_ne (by decide)]⟩
    rw [f_X7_timings_22, if_pos (nI_lt (by omega) (by omega)), if_pos ((inb_i (by omega)).mpr (by omega)), n_cl (by omega), bnd_e]
    rfl
  | succ d ih =>
    intro v g S w s hv hv1 hg hM hw1 hw2 hR
    obtain ⟨g, rfl⟩ : ∃ e, g = e + 1 := ⟨g - 1, by omega⟩
    have b2 := hst S w v hM
    have hR1 : RdM (st S 37 i (nI v)) rd := by unfold RdM; rw [st_ne (by decide), st_ne (by decide), st_ne (by decide)]; exact hR
    have hcs : okC (c.set i (m.1, v, m.2.2)) := okC_set hc ⟨by show m.1 ≤ 2; omega, by show 1 ≤ v; omega, by show v ≤ 3; omega, m4⟩
    obtain ⟨S2, d1, d3⟩ := areSoM_ok hN hcs (rd := rd) (by rw [List.length_set]; exact hrd) b2 hR1
    have hR2 : RdM S2 rd := by unfold RdM; rw [d3.2.1 32 (by decide) (by decide) (by decide), d3.1 52 (by decide) (by decide) (by decide) (by decide) (by decide), d3.1 53 (by decide) (by decide) (by decide) (by decide) (by decide)]; exact hR1
    obtain ⟨S', e1, e2, e3, e4⟩ := ih (v + 1) g S2 v (if soE (c.set i (m.1, v, m.2.2)) rd then s ||| ((nI 1) <<< (nI v &&& (31 : Int32))) else s ||| nI 0) (by omega) (by omega) (by omega) (b2.fr d3) (by omega) (by omega) hR2
    refine ⟨S', ?_, e2, fun k h1 h2 h4 h5 h6 h7 => (e3 k h1 h2 h4 h5 h6 h7).trans ((d3.1 k h1 h4 h5 h6 h7).trans (st_ne h2)), fun j h1 h2 h4 => (e4 j h1 h2 h4).trans ((d3.2.1 j h1 h2 h4).trans (by rw [st_ne (by decide)]))⟩
    rw [f_X7_timings_22, if_neg (nI_nlt (by omega) (by omega)), if_pos ((inb_i (by omega)).mpr (by omega)), n_cl (by omega), bnd_e, d1, cal_s, bnd_e, bnd_e, bnd_e, bnd_e, n_add]
    unfold bits
    cases hb : soE (c.set i (m.1, v, m.2.2)) rd
    · rw [hb] at e1
      rw [if_pos (by rfl)]; exact e1
    · rw [hb] at e1
      rw [if_neg (by decide)]; exact e1
theorem b_timings {N : Nat} (hN : 23300 ≤ N) (x : Int32) : Both (fun S => f_X6_timings N S x) (fun S => f_X7_timings N S x) := by
  refine Both.of fun a ha => ?_
  have h3 := ha.1.1
  rcases is_mac a.1 ha.1 x with hx | ⟨i, m, rfl, hm⟩
  · refine ⟨-1, a, fun S hC => ⟨S, ?_, hC, frC.rf S⟩, fun S hM => ⟨S, ?_, hM, frM.rf S⟩⟩
    · show f_X6_timings N S x = _
      rw [f_X6_timings, macroOf_no N hC.2.1 x hx, cal_s, opt_0]
    · show f_X7_timings N S x = _
      rw [f_X7_timings, isMacro_no N hM.2.1 x hx, cal_s, if_pos nI_0]
  have hi := mac_lt hm
  obtain ⟨m1, m2, m3, m4⟩ := ha.1.2 i m hm
  have hme : a.1.set i (m.1, m.2.1, m.2.2) = a.1 := set_back hm
  refine ⟨bits (fun v => soE (a.1.set i (m.1, v, m.2.2)) a.2.2.2.2.2.1) 3 1 (nI 0), a, fun S hC => ?_, fun S hM => ?_⟩
  · obtain ⟨S', b1, b2, b3⟩ := timings_c hN ha.1 hm (rd := a.2.2.2.2.2.1) ha.2.2.1 3 1 N S m.2.1 (nI 0) (by omega) (by omega) (by omega) (by rw [hme]; exact hC.2.1) (by omega) (by omega) hC.2.2.2.2.2.2.1
    have hr := hC.cfg (S' := S') b2 rfl (fun k h1 h2 h3 => b3 k h2 (by omega))
    refine ⟨S', ?_, hr, fun k hk => b3 k (by omega) (by omega)⟩
    show f_X6_timings N S (nI i) = _
    obtain ⟨f1, f2, f3, f4⟩ := hC.2.1.2.1.2 i m hm
    rw [f_X6_timings, macroOf_ok N hC.2.1 hi, cal_s, opt_1, if_pos (by omega), f2, bnd_e, bnd_e, bnd_e, b1]
  · obtain ⟨S', b1, b2, b3, b4⟩ := timings_m (N := N) (by omega) ha.1 hm (rd := a.2.2.2.2.2.1) ha.2.2.1 3 1 N S m.2.1 (nI 0) (by omega) (by omega) (by omega) (by rw [hme]; exact hM.2.1) (by omega) (by omega) hM.2.2.2.2.2.2.1
    have hr := hM.cfg (S' := S') ha.1 b2 (by
      unfold Mks mkP mkM
      rw [b4 27 (by decide) (by decide) (by decide), b4 28 (by decide) (by decide) (by decide), b3 49 (by decide) (by decide) (by decide) (by decide) (by decide) (by decide)]
      exact hM.2.2.2.2.2.2.2.2) rfl (fun k hk => b3 k (by omega) (by omega) (by omega) (by omega) (by omega) (by omega)) (fun j hj => b4 j (by omega) (by omega) (by omega))
    refine ⟨S', ?_, hr, fun k hk => b3 k (by omega) (by omega) (by omega) (by omega) (by omega) (by omega)⟩
    show f_X7_timings N S (nI i) = _
    obtain ⟨f1, f2, f3, f4⟩ := hM.2.1.2 i m hm
    rw [f_X7_timings, isMacro_ok N ha.1 hM.2.1 hi, cal_s, if_neg (by decide), if_pos ((inb_i (by omega)).mpr (by omega)), n_cl (by omega), f2, bnd_e, bnd_e, bnd_e, b1]
theorem kinds_c {N : Nat} (hN : 23300 ≤ N) {c : List Mac} (hc : okC c) {i : Nat} {m : Mac} (hm : c[i]? = some m) {rd : List (Nat × Nat)} (hrd : rd.length ≤ 8 ∧ ∀ q ∈ rd, q.1 < c.length ∧ q.2 ≤ 5) : ∀ (d v g : Nat) (S : St) (w : Nat) (s : Int32), v + d = 3 → 0 ≤ v → d < g → KC S (c.set i (w, m.2.1, m.2.2)) → 0 ≤ w → w < 3 → RdC S rd → ∃ S', f_X6_kinds_26 N g S (nI i) i (nI m.1) s (nI v) = some (bits (fun v => soE (c.set i (v, m.2.1, m.2.2)) rd) d v s, S') ∧ KC S' c ∧ (∀ k, k ≠ 3 → k ≠ 20 + i → S' k = S k) := by
  have h3 := hc.1
  have hi := mac_lt hm
  obtain ⟨m1, m2, m3, m4⟩ := hc.2 i m hm
  have hself : ∀ x : Mac, (c.set i x)[i]? = some x := fun x => List.getElem?_set_self hi
  intro d
  induction d with
  | zero =>
    intro v g S w s hv hv1 hg hK hw1 hw2 hR
    obtain ⟨g, rfl⟩ : ∃ e, g = e + 1 := ⟨g - 1, by omega⟩
    obtain ⟨S', b1, b2, b3⟩ := change_ok hN hK (hself _) (kd := m.1) (tm := m.2.1) m1 m2 m3
    have b2 : KC S' ((c.set i (w, m.2.1, m.2.2)).set i (m.1, m.2.1, m.2.2)) := b2
    rw [List.set_set, show ((m.1, m.2.1, m.2.2) : Mac) = m from rfl, set_back hm] at b2
    refine ⟨S', ?_, b2, b3⟩
    obtain ⟨f1, f2, f3, f4⟩ := hK.2.1.2 i _ (hself _)
    rw [f_X6_kinds_26, if_pos (nI_lt (by omega) (by omega)), f2, b1, cal_s]
    rfl
  | succ d ih =>
    intro v g S w s hv hv1 hg hK hw1 hw2 hR
    obtain ⟨g, rfl⟩ : ∃ e, g = e + 1 := ⟨g - 1, by omega⟩
    obtain ⟨f1, f2, f3, f4⟩ := hK.2.1.2 i _ (hself _)
    obtain ⟨S1, b1, b2, b3⟩ := change_ok hN hK (hself _) (kd := v) (tm := m.2.1) (by omega) (by omega) (by omega)
    have b2 : KC S1 ((c.set i (w, m.2.1, m.2.2)).set i (v, m.2.1, m.2.2)) := b2
    rw [List.set_set] at b2
    have hR1 : RdC S1 rd := by unfold RdC; rw [b3 0 (by decide) (by omega), b3 10 (by decide) (by omega), b3 11 (by decide) (by omega)]; exact hR
    obtain ⟨S2, d1, d2, d3⟩ := areSoC_ok (N := N) (by omega) (c := c.set i (v, m.2.1, m.2.2)) (rd := rd) (by rw [List.length_set]; exact hrd) b2 hR1
    obtain ⟨S', e1, e2, e3⟩ := ih (v + 1) g S2 v (if soE (c.set i (v, m.2.1, m.2.2)) rd then s ||| ((nI 1) <<< (nI v &&& (31 : Int32))) else s ||| nI 0) (by omega) (by omega) (by omega) d2 (by omega) (by omega) (by unfold RdC; rw [d3 0 (by decide), d3 10 (by decide), d3 11 (by decide)]; exact hR1)
    refine ⟨S', ?_, e2, fun k h1 h2 => (e3 k h1 h2).trans ((d3 k h1).trans (b3 k h1 h2))⟩
    rw [f_X6_kinds_26, if_neg (nI_nlt (by omega) (by omega)), f2, b1, cal_s, d1, cal_s, bnd_e, bnd_e, bnd_e, bnd_e, n_add]
    unfold bits
    cases hb : soE (c.set i (v, m.2.1, m.2.2)) rd
    · rw [hb] at e1
      rw [if_pos (by rfl)]; exact e1
    · rw [hb] at e1
      rw [if_neg (by decide)]; exact e1
theorem kinds_m {N : Nat} (hN : 15100 ≤ N) {c : List Mac} (hc : okC c) {i : Nat} {m : Mac} (hm : c[i]? = some m) {rd : List (Nat × Nat)} (hrd : rd.length ≤ 8 ∧ ∀ q ∈ rd, q.1 < c.length ∧ q.2 ≤ 5) : ∀ (d v g : Nat) (S : St) (w : Nat) (s : Int32), v + d = 3 → 0 ≤ v → d < g → CfM S (c.set i (w, m.2.1, m.2.2)) → 0 ≤ w → w < 3 → RdM S rd → ∃ S', f_X7_kinds_22 N g S (nI i) (nI m.1) s (nI v) = some (bits (fun v => soE (c.set i (v, m.2.1, m.2.2)) rd) d v s, S') ∧ CfM S' c ∧ (∀ k, k ≠ 32 → k ≠ 36 → k ≠ 45 → k ≠ 46 → k ≠ 47 → k ≠ 48 → S' k = S k) ∧ (∀ j, j ≠ 20 → j ≠ 21 → j ≠ 22 → S' 32 j = S 32 j) := by
  have h3 := hc.1
  have hi := mac_lt hm
  obtain ⟨m1, m2, m3, m4⟩ := hc.2 i m hm
  have hself : ∀ x : Mac, (c.set i x)[i]? = some x := fun x => List.getElem?_set_self hi
  have hst : ∀ (S : St) (w v : Nat), CfM S (c.set i (w, m.2.1, m.2.2)) → CfM (st S 36 i (nI v)) (c.set i (v, m.2.1, m.2.2)) := fun S w v h => by
    refine ⟨by rw [st_ne (by decide), List.length_set, h.1, List.length_set], fun e x hx => ?_⟩
    by_cases he : e = i
    · subst he
      rw [hself] at hx
      have := Option.some.inj hx
      subst this
      obtain ⟨f1, f2, f3, f4⟩ := h.2 e _ (hself _)
      exact ⟨st_s, by rw [st_ne (by decide)]; exact f2, by rw [st_ne (by decide)]; exact f3, fun j k hk => by rw [st_ne (by decide)]; exact f4 j k hk⟩
    · rw [List.getElem?_set_ne (Ne.symm he)] at hx
      obtain ⟨f1, f2, f3, f4⟩ := h.2 e x (by rw [List.getElem?_set_ne (Ne.symm he)]; exact hx)
      exact ⟨by rw [st_n he]; exact f1, by rw [st_ne (by decide)]; exact f2, by rw [st_ne (by decide)]; exact f3, fun j k hk => by rw [st_ne (by decide)]; exact f4 j k hk⟩
  intro d
  induction d with
  | zero =>
    intro v g S w s hv hv1 hg hM hw1 hw2 hR
    obtain ⟨g, rfl⟩ : ∃ e, g = e + 1 := ⟨g - 1, by omega⟩
    have b2 := hst S w m.1 hM
    have b2 : CfM (st S 36 i (nI m.1)) (c.set i (m.1, m.2.1, m.2.2)) := b2
    rw [show ((m.1, m.2.1, m.2.2) : Mac) = m from rfl, set_back hm] at b2
    refine ⟨st S 36 i (nI m.1), ?_, b2, fun k _ h _ _ _ _ => st_ne h, fun j _ _ _ => by rw [st_ne (by decide)]⟩
    rw [f_X7_kinds_22, if_pos (nI_le (by omega) (by omega)), if_pos ((inb_i (by omega)).mpr (by omega)), n_cl (by omega), bnd_e]
    rfl
  | succ d ih =>
    intro v g S w s hv hv1 hg hM hw1 hw2 hR
    obtain ⟨g, rfl⟩ : ∃ e, g = e + 1 := ⟨g - 1, by omega⟩
    have b2 := hst S w v hM
    have hR1 : RdM (st S 36 i (nI v)) rd := by unfold RdM; rw [st_ne (by decide), st_ne (by decide), st_ne (by decide)]; exact hR
    have hcs : okC (c.set i (v, m.2.1, m.2.2)) := okC_set hc ⟨by show v ≤ 2; omega, by show 1 ≤ m.2.1; omega, by show m.2.1 ≤ 3; omega, m4⟩
    obtain ⟨S2, d1, d3⟩ := areSoM_ok hN hcs (rd := rd) (by rw [List.length_set]; exact hrd) b2 hR1
    have hR2 : RdM S2 rd := by unfold RdM; rw [d3.2.1 32 (by decide) (by decide) (by decide), d3.1 52 (by decide) (by decide) (by decide) (by decide) (by decide), d3.1 53 (by decide) (by decide) (by decide) (by decide) (by decide)]; exact hR1
    obtain ⟨S', e1, e2, e3, e4⟩ := ih (v + 1) g S2 v (if soE (c.set i (v, m.2.1, m.2.2)) rd then s ||| ((nI 1) <<< (nI v &&& (31 : Int32))) else s ||| nI 0) (by omega) (by omega) (by omega) (b2.fr d3) (by omega) (by omega) hR2
    refine ⟨S', ?_, e2, fun k h1 h2 h4 h5 h6 h7 => (e3 k h1 h2 h4 h5 h6 h7).trans ((d3.1 k h1 h4 h5 h6 h7).trans (st_ne h2)), fun j h1 h2 h4 => (e4 j h1 h2 h4).trans ((d3.2.1 j h1 h2 h4).trans (by rw [st_ne (by decide)]))⟩
    rw [f_X7_kinds_22, if_neg (nI_ge (by omega) (by omega)), if_pos ((inb_i (by omega)).mpr (by omega)), n_cl (by omega), bnd_e, d1, cal_s, bnd_e, bnd_e, bnd_e, bnd_e, n_add]
    unfold bits
    cases hb : soE (c.set i (v, m.2.1, m.2.2)) rd
    · rw [hb] at e1
      rw [if_pos (by rfl)]; exact e1
    · rw [hb] at e1
      rw [if_neg (by decide)]; exact e1
theorem b_kinds {N : Nat} (hN : 23300 ≤ N) (x : Int32) : Both (fun S => f_X6_kinds N S x) (fun S => f_X7_kinds N S x) := by
  refine Both.of fun a ha => ?_
  have h3 := ha.1.1
  rcases is_mac a.1 ha.1 x with hx | ⟨i, m, rfl, hm⟩
  · refine ⟨-1, a, fun S hC => ⟨S, ?_, hC, frC.rf S⟩, fun S hM => ⟨S, ?_, hM, frM.rf S⟩⟩
    · show f_X6_kinds N S x = _
      rw [f_X6_kinds, macroOf_no N hC.2.1 x hx, cal_s, opt_0]
    · show f_X7_kinds N S x = _
      rw [f_X7_kinds, isMacro_no N hM.2.1 x hx, cal_s, if_pos nI_0]
  have hi := mac_lt hm
  obtain ⟨m1, m2, m3, m4⟩ := ha.1.2 i m hm
  have hme : a.1.set i (m.1, m.2.1, m.2.2) = a.1 := set_back hm
  refine ⟨bits (fun v => soE (a.1.set i (v, m.2.1, m.2.2)) a.2.2.2.2.2.1) 3 0 (nI 0), a, fun S hC => ?_, fun S hM => ?_⟩
  · obtain ⟨S', b1, b2, b3⟩ := kinds_c hN ha.1 hm (rd := a.2.2.2.2.2.1) ha.2.2.1 3 0 N S m.1 (nI 0) (by omega) (by omega) (by omega) (by rw [hme]; exact hC.2.1) (by omega) (by omega) hC.2.2.2.2.2.2.1
    have hr := hC.cfg (S' := S') b2 rfl (fun k h1 h2 h3 => b3 k h2 (by omega))
    refine ⟨S', ?_, hr, fun k hk => b3 k (by omega) (by omega)⟩
    show f_X6_kinds N S (nI i) = _
    obtain ⟨f1, f2, f3, f4⟩ := hC.2.1.2.1.2 i m hm
    rw [f_X6_kinds, macroOf_ok N hC.2.1 hi, cal_s, opt_1, if_pos (by omega), f1, bnd_e, bnd_e, bnd_e, b1]
  · obtain ⟨S', b1, b2, b3, b4⟩ := kinds_m (N := N) (by omega) ha.1 hm (rd := a.2.2.2.2.2.1) ha.2.2.1 3 0 N S m.1 (nI 0) (by omega) (by omega) (by omega) (by rw [hme]; exact hM.2.1) (by omega) (by omega) hM.2.2.2.2.2.2.1
    have hr := hM.cfg (S' := S') ha.1 b2 (by
      unfold Mks mkP mkM
      rw [b4 27 (by decide) (by decide) (by decide), b4 28 (by decide) (by decide) (by decide), b3 49 (by decide) (by decide) (by decide) (by decide) (by decide) (by decide)]
      exact hM.2.2.2.2.2.2.2.2) rfl (fun k hk => b3 k (by omega) (by omega) (by omega) (by omega) (by omega) (by omega)) (fun j hj => b4 j (by omega) (by omega) (by omega))
    refine ⟨S', ?_, hr, fun k hk => b3 k (by omega) (by omega) (by omega) (by omega) (by omega) (by omega)⟩
    show f_X7_kinds N S (nI i) = _
    obtain ⟨f1, f2, f3, f4⟩ := hM.2.1.2 i m hm
    rw [f_X7_kinds, isMacro_ok N ha.1 hM.2.1 hi, cal_s, if_neg (by decide), if_pos ((inb_i (by omega)).mpr (by omega)), n_cl (by omega), f1, bnd_e, bnd_e, bnd_e, b1]
