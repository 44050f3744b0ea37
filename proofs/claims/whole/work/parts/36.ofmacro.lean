/-! ofMacro: and how many keys a macro presses in all -/
def ksum (f : Nat → Nat) : List Nat → Nat
  | [] => 0
  | k :: ks => (if k < 8 then 1 else f (k - 8)) + ksum f ks
def prD (c : List Mac) : Nat → Nat → Nat
  | 0, _ => 0
  | d + 1, i => match c[i]? with
    | none => 0
    | some m => ksum (prD c d) m.2.2 * oft m
def pr (c : List Mac) (i : Nat) : Nat := prD c (i + 1) i
theorem ksum_c {f g : Nat → Nat} : ∀ (ks : List Nat), (∀ k ∈ ks, 8 ≤ k → f (k - 8) = g (k - 8)) → ksum f ks = ksum g ks
  | [], _ => rfl
  | k :: ks, h => by
    show (if k < 8 then 1 else f (k - 8)) + ksum f ks = (if k < 8 then 1 else g (k - 8)) + ksum g ks
    rw [ksum_c ks (fun q hq => h q (List.mem_cons_of_mem _ hq))]
    by_cases c : k < 8
    · rw [if_pos c, if_pos c]
    · rw [if_neg c, if_neg c, h k List.mem_cons_self (by omega)]
theorem prD_eq {c : List Mac} (hc : okC c) : ∀ i d, i < d → prD c d i = pr c i := by
  intro i
  induction i using Nat.strongRecOn with
  | ind i ih =>
    intro d hd
    obtain ⟨d, rfl⟩ : ∃ g, d = g + 1 := ⟨d - 1, by omega⟩
    show (match c[i]? with | none => 0 | some m => ksum (prD c d) m.2.2 * oft m) = (match c[i]? with | none => 0 | some m => ksum (prD c i) m.2.2 * oft m)
    cases hm : c[i]? with
    | none => rfl
    | some m =>
      have hk := (hc.2 i m hm).2.2.2.2.2
      show ksum (prD c d) m.2.2 * oft m = ksum (prD c i) m.2.2 * oft m
      rw [ksum_c (g := prD c i) m.2.2 (fun k hk1 hk2 => by
        have := hk k hk1
        rw [ih (k - 8) (by omega) d (by omega), ih (k - 8) (by omega) i (by omega)])]
theorem pr_eq {c : List Mac} (hc : okC c) {i : Nat} {m : Mac} (hm : c[i]? = some m) : pr c i = ksum (pr c) m.2.2 * oft m := by
  have hk := (hc.2 i m hm).2.2.2.2.2
  show (match c[i]? with | none => 0 | some m => ksum (prD c i) m.2.2 * oft m) = _
  rw [hm]
  show ksum (prD c i) m.2.2 * oft m = _
  rw [ksum_c m.2.2 (fun k hk1 hk2 => by
    have := hk k hk1
    exact prD_eq hc (k - 8) i (by omega))]
theorem prC_loop {N : Nat} {c : List Mac} {S : St} (h : KC S c) {i : Nat} {m : Mac} (hm : c[i]? = some m) {fe : St → Int32 → Option (Int32 × St)} (hfe : ∀ e, e < i → fe S (nI e) = some (nI (pr c e), S)) : ∀ (suf : List Nat) (j f s : Nat), j + suf.length = m.2.2.length → (∀ q k, suf[q]? = some k → m.2.2[j + q]? = some k) → suf.length < f → f_X0_pressesOf_17 N fe f S (nI i) i (nI s) (nI j) = some (nI ((s + ksum (pr c) suf) * oft m), S) := by
  have hi := mac_lt hm
  have h3 := h.1.1
  obtain ⟨m1, m2, m3, m4, m5, m6⟩ := h.1.2 i m hm
  obtain ⟨a1, a2, a3, a4⟩ := h.2.1.2 i m hm
  intro suf
  induction suf with
  | nil =>
    intro j f s hj _ hf
    obtain ⟨g, rfl⟩ : ∃ g, f = g + 1 := ⟨f - 1, by omega⟩
    rw [List.length_nil] at hj
    rw [f_X0_pressesOf_17, a3, if_pos (nI_le (by omega) (by omega)), often_ok N h hm, cal_s, n_mul]
    rfl
  | cons k suf ih =>
    intro j f s hj hq hf
    obtain ⟨g, rfl⟩ : ∃ g, f = g + 1 := ⟨f - 1, by omega⟩
    rw [List.length_cons] at hj hf
    have hk : m.2.2[j]? = some k := hq 0 k rfl
    have hk8 := m6 k (List.mem_of_getElem? hk)
    have ih2 := fun s => ih (j + 1) g s (by omega) (fun q k' h => by rw [Nat.add_assoc, Nat.add_comm 1 q]; exact hq (q + 1) k' h) (by omega)
    rw [f_X0_pressesOf_17, a3, if_neg (nI_ge (by omega) (by omega)), keyAt_ok N h hm hk, cal_s]
    show _ = some (nI ((s + ((if k < 8 then 1 else pr c (k - 8)) + ksum (pr c) suf)) * oft m), S)
    by_cases c8 : k < 8
    · rw [if_neg (nI_ge (by omega) (by omega)), bnd_e, bnd_e, n_add, n_add, ih2, if_pos c8, Nat.add_assoc]
    · rw [if_pos (nI_le (by omega) (by omega)), n_sub (by omega), if_neg (nI_ge (by omega) (by omega)), hfe (k - 8) (by omega), cal_s, bnd_e, bnd_e, n_add, n_add, ih2, if_neg c8, Nat.add_assoc]
theorem prC_ok {N : Nat} (hN : 5 ≤ N) {c : List Mac} {S : St} (h : KC S c) : ∀ d i, i < d → i < c.length → g_X0_pressesOf N d S (nI i) = some (nI (pr c i), S) := by
  intro d
  induction d with
  | zero => intro i hi; omega
  | succ d ih =>
    intro i hd hi
    obtain ⟨m, hm⟩ : ∃ m, c[i]? = some m := ⟨c[i], List.getElem?_eq_getElem hi⟩
    have h3 := h.1.1
    obtain ⟨m1, m2, m3, m4, m5, m6⟩ := h.1.2 i m hm
    show f_X0_pressesOf N (g_X0_pressesOf N d) S (nI i) = _
    rw [f_X0_pressesOf, macroOf_ok N h hi, cal_s, opt_1, if_pos (by omega), bnd_e, bnd_e]
    have := prC_loop (N := N) h hm (fe := g_X0_pressesOf N d) (fun e he => ih e (by omega) (by omega)) m.2.2 0 N 0 (by omega) (fun q k hq => by rw [Nat.zero_add]; exact hq) (by omega)
    rw [this, Nat.zero_add, pr_eq h.1 hm]
theorem prM_in {N : Nat} {c : List Mac} (hc : okC c) {S : St} (h : CfM S c) {i : Nat} {m : Mac} (hm : c[i]? = some m) (hpr : ∀ e, e < i → S 44 e = nI (pr c e)) (k2 : St → Int32 → Option (Unit × St)) : ∀ (suf : List Nat) (j f s : Nat), j + suf.length = m.2.2.length → (∀ q k, suf[q]? = some k → m.2.2[j + q]? = some k) → suf.length < f → f_X7_findPresses_14 N k2 f S (nI i) (nI s) (nI j) = k2 (st S 44 i (nI ((s + ksum (pr c) suf) * oft m))) (nI (i + 1)) := by
  have hi := mac_lt hm
  have h3 := hc.1
  obtain ⟨m1, m2, m3, m4, m5, m6⟩ := hc.2 i m hm
  obtain ⟨a1, a2, a3, a4⟩ := h.2 i m hm
  have hin : inb (nI i) 3 = true := (inb_i (by omega)).mpr (by omega)
  intro suf
  induction suf with
  | nil =>
    intro j f s hj _ hf
    obtain ⟨g, rfl⟩ : ∃ g, f = g + 1 := ⟨f - 1, by omega⟩
    rw [List.length_nil] at hj
    rw [f_X7_findPresses_14, if_pos hin, n_cl (by omega), a3, if_pos (nI_le (by omega) (by omega)), oftenM_ok N hc h hm, cal_s, if_pos hin, bnd_e, bnd_e, n_mul, n_add, Nat.mul_comm]
    rfl
  | cons k suf ih =>
    intro j f s hj hq hf
    obtain ⟨g, rfl⟩ : ∃ g, f = g + 1 := ⟨f - 1, by omega⟩
    rw [List.length_cons] at hj hf
    have hk : m.2.2[j]? = some k := hq 0 k rfl
    have hk8 := m6 k (List.mem_of_getElem? hk)
    have ih2 := fun s => ih (j + 1) g s (by omega) (fun q k' h => by rw [Nat.add_assoc, Nat.add_comm 1 q]; exact hq (q + 1) k' h) (by omega)
    rw [f_X7_findPresses_14, if_pos hin, n_cl (by omega), a3, if_neg (nI_ge (by omega) (by omega)), n_mul, n_add, if_pos ((inb_i (by omega)).mpr (by omega)), bnd_e, n_cl (by omega), a4 j k hk]
    show _ = k2 (st S 44 i (nI ((s + ((if k < 8 then 1 else pr c (k - 8)) + ksum (pr c) suf)) * oft m))) (nI (i + 1))
    by_cases c8 : k < 8
    · rw [if_neg (nI_ge (by omega) (by omega)), bnd_e, bnd_e, n_add, n_add, ih2, if_pos c8, Nat.add_assoc]
    · rw [if_pos (nI_le (by omega) (by omega)), n_sub (by omega), if_pos ((inb_i (by omega)).mpr (by omega)), bnd_e, bnd_e, n_cl (by omega), hpr (k - 8) (by omega), n_add, n_add, ih2, if_neg c8, Nat.add_assoc]
theorem CfM.eq {S S' : St} {c : List Mac} (h : CfM S c) (h5 : S' 32 5 = S 32 5) (hf : S' 36 = S 36 ∧ S' 37 = S 37 ∧ S' 38 = S 38 ∧ S' 39 = S 39) : CfM S' c := ⟨h5.trans h.1, fun i m hm => by rw [hf.1, hf.2.1, hf.2.2.1, hf.2.2.2]; exact h.2 i m hm⟩
theorem prM_out {N : Nat} (hN : 5 ≤ N) {c : List Mac} (hc : okC c) : ∀ (d i f : Nat) (S : St), CfM S c → i + d = c.length → d < f → (∀ e, e < i → S 44 e = nI (pr c e)) → ∃ S', f_X7_findPresses_2 N f S (nI i) = some ((), S') ∧ (∀ k, k ≠ 44 → S' k = S k) ∧ ∀ e, e < c.length → S' 44 e = nI (pr c e) := by
  have h3 := hc.1
  intro d
  induction d with
  | zero =>
    intro i f S h hi hf hp
    obtain ⟨g, rfl⟩ : ∃ g, f = g + 1 := ⟨f - 1, by omega⟩
    rw [f_X7_findPresses_2, h.1, if_pos (nI_le (by omega) (by omega))]
    exact ⟨S, rfl, fun _ _ => rfl, fun e he => hp e (by omega)⟩
  | succ d ih =>
    intro i f S h hi hf hp
    obtain ⟨g, rfl⟩ : ∃ g, f = g + 1 := ⟨f - 1, by omega⟩
    obtain ⟨m, hm⟩ : ∃ m, c[i]? = some m := ⟨c[i]'(by omega), List.getElem?_eq_getElem _⟩
    obtain ⟨m1, m2, m3, m4, m5, m6⟩ := hc.2 i m hm
    rw [f_X7_findPresses_2, h.1, if_neg (nI_ge (by omega) (by omega)), bnd_e, bnd_e]
    have := prM_in (N := N) hc h hm hp (f_X7_findPresses_2 N g) m.2.2 0 N 0 (by omega) (fun q k hq => by rw [Nat.zero_add]; exact hq) (by omega)
    rw [this, Nat.zero_add, ← pr_eq hc hm]
    obtain ⟨S', a1, a2, a3⟩ := ih (i + 1) g (st S 44 i (nI (pr c i))) (h.eq (by rw [st_ne (by decide)]) ⟨st_ne (by decide), st_ne (by decide), st_ne (by decide), st_ne (by decide)⟩) (by omega) (by omega) (fun e he => by
      by_cases hei : e = i
      · rw [hei, st_s]
      · rw [st_n hei]; exact hp e (by omega))
    exact ⟨S', a1, fun k hk => (a2 k hk).trans (st_ne hk), a3⟩
theorem b_ofMacro {N : Nat} (hN : 5 ≤ N) (x y : Int32) : Both (fun S => f_X6_ofMacro N S x y) (fun S => f_X7_ofMacro N S x y) := by
  refine Both.of fun a ha => ?_
  rcases is_mac a.1 ha.1 x with hx | ⟨i, m, rfl, hm⟩
  · refine ⟨-1, a, fun S hC => ⟨S, ?_, hC, frC.rf S⟩, fun S hM => ⟨S, ?_, hM, frM.rf S⟩⟩
    · show f_X6_ofMacro N S x y = _
      rw [f_X6_ofMacro, macroOf_no N hC.2.1 x hx, cal_s, opt_0]
    · show f_X7_ofMacro N S x y = _
      rw [f_X7_ofMacro, isMacro_no N hM.2.1 x hx, cal_s, if_pos nI_0]
  · have hi := mac_lt hm
    have h3 := ha.1.1
    have hin : inb (nI i) 3 = true := (inb_i (by omega)).mpr (by omega)
    refine ⟨if y = nI 0 then nI m.1 else if y = nI 1 then nI m.2.1 else if y = nI 2 then nI (oft m) else if y = nI 3 then nI m.2.2.length else if y = nI 4 then nI (pr a.1 i) else -2, a, fun S hC => ⟨S, ?_, hC, frC.rf S⟩, fun S hM => ?_⟩
    · show f_X6_ofMacro N S (nI i) y = _
      rw [f_X6_ofMacro, macroOf_ok N hC.2.1 hi, cal_s, opt_1, if_pos (by omega), bnd_e, (hC.mac hm).1, (hC.mac hm).2.1, (hC.mac hm).2.2.1, often_ok N hC.2.1 hm, cal_s, prC_ok hN hC.2.1 4 i (by omega) hi, cal_s]
      repeat (first | rfl | split)
    · by_cases c4 : y = nI 4
      · subst c4
        obtain ⟨S', a1, a2, a3⟩ := prM_out hN ha.1 a.1.length 0 N S hM.2.1 (by omega) (by omega) (fun e he => absurd he (by omega))
        refine ⟨S', ?_, ?_, fun k hk => a2 k (by omega)⟩
        · show f_X7_ofMacro N S (nI i) (nI 4) = _
          rw [f_X7_ofMacro, isMacro_ok N ha.1 hM.2.1 hi, cal_s, if_neg (by decide), bnd_e, if_neg (by decide), if_neg (by decide), if_neg (by decide), if_neg (by decide), if_pos rfl, f_X7_findPresses, bnd_e, a1, cal_s, if_pos hin, n_cl (by omega), a3 i hi]
          rw [if_neg (by decide), if_neg (by decide), if_neg (by decide), if_neg (by decide), if_pos rfl]
        · exact hM.re (S' := S') (fun k hk => a2 k (by omega)) (by rw [a2 32 (by decide)]; exact ⟨rfl, rfl, rfl, rfl⟩) ha.2.1 (by rw [a2 32 (by decide)]; exact hM.2.2.1) (by rw [a2 32 (by decide)]; exact hM.2.2.2.1) (by rw [a2 32 (by decide)]; exact hM.2.2.2.2.1) (by rw [a2 32 (by decide)]; exact hM.2.2.2.2.2.1)
      · refine ⟨S, ?_, hM, frM.rf S⟩
        show f_X7_ofMacro N S (nI i) y = _
        rw [f_X7_ofMacro, isMacro_ok N ha.1 hM.2.1 hi, cal_s, if_neg (by decide), bnd_e, if_pos hin, n_cl (by omega), (hM.mac hm).1, if_pos hin, (hM.mac hm).2.1, oftenM_ok N ha.1 hM.2.1 hm, cal_s, if_pos hin, (hM.mac hm).2.2.1, if_neg c4, if_neg c4]
        repeat (first | rfl | split)
