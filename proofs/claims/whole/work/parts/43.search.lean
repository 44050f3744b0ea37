/-! the class's search -/
def QC (S : St) (q : List Ln) : Prop := q.Nodup ∧ (∀ m ∈ q, okL m) ∧ S 6 2 = nI q.length ∧ (∀ p l, q[p]? = some l → S 7 p = nI (cn l)) ∧ ∀ m, okL m → (S 8 (cn m) = 0 ↔ ¬ m ∈ q)
/-- what was come to by, stays -/
def kp (S S' : St) : Prop := ∀ m, okL m → S 8 (cn m) ≠ 0 → S' 8 (cn m) = S 8 (cn m)
theorem kp.rf (S : St) : kp S S := fun _ _ _ => rfl
theorem kp.tr {S T U : St} (h : kp S T) (g : kp T U) : kp S U := fun m hm h0 => (g m hm (by rw [h m hm h0]; exact h0)).trans (h m hm h0)
theorem QC.fr {S S' : St} {q : List Ln} (h : QC S q) (hf : fr3 S S') : QC S' q := by
  unfold QC
  rw [hf 6 (by decide), hf 7 (by decide), hf 8 (by decide)]
  exact h
theorem kp.of3 {S S' : St} (hf : fr3 S S') : kp S S' := fun m _ _ => by rw [hf 8 (by decide)]
theorem queueUp_ok (N : Nat) {S : St} {q : List Ln} (h : QC S q) {m : Ln} (hm : okL m) (hn : ¬ m ∈ q) {v : Int32} (hv : v ≠ 0) : ∃ S', f_X4_queueUp N S (nI (cn m)) v = some ((), S') ∧ QC S' (q ++ [m]) ∧ kp S S' ∧ S' 8 (cn m) = v ∧ ∀ k, k ≠ 6 → k ≠ 7 → k ≠ 8 → S' k = S k := by
  obtain ⟨q1, q2, q3, q4, q5⟩ := h
  have hlt := nd_lt q1 q2 hm hn
  have hc := cn_lt hm
  refine ⟨st (st (st S 8 (cn m) v) 7 q.length (nI (cn m))) 6 2 (nI (q.length + 1)), ?_, ⟨nd_snoc q1 hn, ok_snoc q2 hm, ?_, fun p l hp => ?_, fun m' hm' => ?_⟩, fun m' hm' h0 => ?_, ?_, fun k a b c => by rw [st_ne a, st_ne b, st_ne c]⟩
  · rw [f_X4_queueUp, q3, if_neg (nI_ge (by omega) (by omega)), isLine_ok N S hc, cal_s, if_neg (by decide), if_pos ((inb_i (by omega)).mpr hc), n_cl (by omega), bnd_e, st_ne (a := 6) (by decide), q3, if_pos ((inb_i (by omega)).mpr hlt), n_cl (by omega), bnd_e, bnd_e, st_ne (a := 6) (by decide), st_ne (a := 6) (by decide), q3, n_add]
  · rw [st_s, List.length_append]; rfl
  · rw [st_ne (by decide)]
    by_cases e : p < q.length
    · rw [List.getElem?_append_left e] at hp
      rw [st_n (by omega), st_ne (by decide)]
      exact q4 p l hp
    · rw [List.getElem?_append_right (by omega)] at hp
      have hpl : p = q.length := by
        rcases Nat.lt_or_ge (p - q.length) 1 with z | z
        · omega
        · rw [List.getElem?_eq_none (by exact z)] at hp; cases hp
      subst hpl
      rw [Nat.sub_self] at hp
      have : m = l := Option.some.inj hp
      rw [st_s, this]
  · rw [st_ne (by decide), st_ne (by decide)]
    by_cases e : m' = m
    · subst e
      rw [st_s]
      exact ⟨fun z => absurd z hv, fun z => absurd (List.mem_append_right _ (List.mem_singleton.mpr rfl)) z⟩
    · rw [st_n (fun z => e (cn_inj hm' hm z)), q5 m' hm']
      constructor
      · intro z w
        exact (List.mem_append.mp w).elim z (fun w => e (List.mem_singleton.mp w))
      · intro z w
        exact z (List.mem_append_left _ w)
  · have e : m' ≠ m := fun z => h0 (by rw [z]; exact (q5 m hm).mpr hn)
    rw [st_ne (by decide), st_ne (by decide), st_n (fun z => e (cn_inj hm' hm z))]
  · rw [st_ne (by decide), st_ne (by decide), st_s]
/-- a line has the letters told -/
def hasG (goal : Int32) (m : Ln) : Bool := decide (nI (cn (act 7 m)) = goal)
theorem hasLetters_ok {N : Nat} (hN : 7 ≤ N) (S : St) (goal : Int32) {m : Ln} (hm : okL m) : f_X4_hasLetters N S (nI (cn m)) goal = some (nI (b01 (hasG goal m)), S) := by
  rw [f_X4_hasLetters, after_ok hN S hm (by decide), cal_s]
  unfold hasG
  by_cases e : nI (cn (act 7 m)) = goal
  · rw [if_pos e, decide_eq_true e]; rfl
  · rw [if_neg e, decide_eq_false e]; rfl
/-- the number by which a line is come to -/
theorem by_ok {x k : Nat} (hx : x < 7737) (hk : k < 16) : nI 1 + ((nI x <<< (nI 4 &&& (31 : Int32))) ||| nI k) = nI (1 + (x * 16 + k)) := by
  rw [sh_l (by decide) (by omega), or_p 4 (by omega), n_add]
theorem by_ne {y : Nat} (hy : y < 200000) : nI (1 + y) ≠ 0 := fun z => by
  rw [z_eq (by omega)] at z; omega
/-- one line is gone on from by one key more: what is new is queued -/
theorem find_one {N : Nat} (hN : 8 ≤ N) {c : List Mac} (hc : okC c) (k33 : St → Int32 → Int32 → Int32 → Option (Int32 × St)) (g : Nat) {S : St} {q : List Ln} (hQ : QC S q) (hK : KC S c) {f : Ln} (hf : okL f) {k : Nat} (hk : k < 8 + c.length) (fk goal h : Int32) :
    (go c k f ∈ q → ∃ S', f_X4_find_62 N k33 (g + 1) S fk goal h (nI (cn f)) (nI k) = f_X4_find_62 N k33 g S' fk goal h (nI (cn f)) (nI (k + 1)) ∧ QC S' q ∧ KC S' c ∧ frS S S' ∧ kp S S') ∧
    (¬ go c k f ∈ q → ∃ S', (f_X4_find_62 N k33 (g + 1) S fk goal h (nI (cn f)) (nI k) = if hasG goal (go c k f) = true then some (nI (cn (go c k f)), S') else f_X4_find_62 N k33 g S' fk goal h (nI (cn f)) (nI (k + 1))) ∧ QC S' (q ++ [go c k f]) ∧ KC S' c ∧ frS S S' ∧ kp S S' ∧ S' 8 (cn (go c k f)) = nI (1 + (cn f * 16 + k))) := by
  have h3 := hc.1
  obtain ⟨S1, b1, b2, b3⟩ := lineAfter_ok hN hK hf hk
  have hg := go_ok hc hk hf
  have hcg := cn_lt hg
  have hcf := cn_lt hf
  have hQ1 := hQ.fr b3
  have hstart : f_X4_find_62 N k33 (g + 1) S fk goal h (nI (cn f)) (nI k) = (if (S1 8 (cn (go c k f))) = (0 : Int32) then cal (f_X4_queueUp N S1 (nI (cn (go c k f))) (nI (1 + (cn f * 16 + k)))) (fun _ S8 => cal (f_X4_hasLetters N S8 (nI (cn (go c k f))) goal) (fun r13 S11 => if r13 = (0 : Int32) then f_X4_find_62 N k33 g S11 fk goal h (nI (cn f)) (nI (k + 1)) else some (nI (cn (go c k f)), S11))) else f_X4_find_62 N k33 g S1 fk goal h (nI (cn f)) (nI (k + 1))) := by
    rw [f_X4_find_62, f_X0_keysThereAre, cal_s, hK.2.1.1, n_add, if_neg (nI_ge hk (by omega)), b1, cal_s, isLine_ok N S1 hcg, cal_s, if_neg (by decide), if_pos ((inb_i (by omega)).mpr hcg), n_cl (by omega), by_ok hcf (by omega), bnd_e, n_add]
    rfl
  rw [hstart]
  constructor
  · intro hin
    rw [if_neg (fun z => ((hQ1.2.2.2.2 _ hg).mp z) hin)]
    exact ⟨S1, rfl, hQ1, b2, b3.S, kp.of3 b3⟩
  · intro hn
    obtain ⟨S2, d1, d2, d3, d4, d5⟩ := queueUp_ok N hQ1 hg hn (v := nI (1 + (cn f * 16 + k))) (by_ne (by omega))
    rw [if_pos ((hQ1.2.2.2.2 _ hg).mpr hn), d1, cal_s, hasLetters_ok (by omega) S2 goal hg, cal_s]
    refine ⟨S2, ?_, d2, b2.S d5, b3.S.tr (fun k _ a b c => d5 k a b c), (kp.of3 b3).tr d3, d4⟩
    cases hasG goal (go c k f)
    · rw [if_pos (by rfl), if_neg (by decide)]
    · rw [if_neg (by decide), if_pos rfl]
theorem find_last {N : Nat} {c : List Mac} (hc : okC c) (k33 : St → Int32 → Int32 → Int32 → Option (Int32 × St)) (g : Nat) {S : St} (hK : KC S c) (fk goal f : Int32) (h : Nat) {k : Nat} (hk : k = 8 + c.length) : f_X4_find_62 N k33 (g + 1) S fk goal (nI h) f (nI k) = k33 S fk goal (nI (h + 1)) := by
  have h3 := hc.1
  rw [f_X4_find_62, f_X0_keysThereAre, cal_s, hK.2.1.1, n_add, if_pos (nI_le (by omega) (by omega)), bnd_e, n_add]
/-- all keys of a line, as lists -/
def bk (c : List Mac) (f : Ln) : Nat → Nat → List Ln → List Ln
  | 0, _, q => q
  | d + 1, k, q => bk c f d (k + 1) (if go c k f ∈ q then q else q ++ [go c k f])
def bf (c : List Mac) (k0 : Nat) : Nat → Nat → List Ln → List Ln
  | 0, _, q => q
  | d + 1, h, q => match q[h]? with
    | none => q
    | some f => bf c k0 d (h + 1) (bk c f (8 + c.length - k0) k0 q)
theorem find_no1 {N : Nat} (hN : 8 ≤ N) {c : List Mac} (hc : okC c) (k33 : St → Int32 → Int32 → Int32 → Option (Int32 × St)) (fk goal : Int32) (h : Nat) {I : Ln → Prop} {k0 : Nat} (hI : ∀ l, I l → okL l ∧ hasG goal l = false) (hgo : ∀ l k, I l → k0 ≤ k → k < 8 + c.length → I (go c k l)) {f : Ln} (hf : I f) : ∀ (d k g : Nat) (S : St) (q : List Ln), k + d = 8 + c.length → d < g → k0 ≤ k → QC S q → (∀ l ∈ q, I l) → KC S c → ∃ S', f_X4_find_62 N k33 g S fk goal (nI h) (nI (cn f)) (nI k) = k33 S' fk goal (nI (h + 1)) ∧ QC S' (bk c f d k q) ∧ (∀ l ∈ bk c f d k q, I l) ∧ KC S' c ∧ frS S S' := by
  intro d
  induction d with
  | zero =>
    intro k g S q hk hg h0 hQ hq hK
    obtain ⟨g, rfl⟩ : ∃ e, g = e + 1 := ⟨g - 1, by omega⟩
    exact ⟨S, find_last hc k33 g hK fk goal _ h (by omega), hQ, hq, hK, frS.rf S⟩
  | succ d ih =>
    intro k g S q hk hg h0 hQ hq hK
    obtain ⟨g, rfl⟩ : ∃ e, g = e + 1 := ⟨g - 1, by omega⟩
    have hone := find_one hN hc k33 g hQ hK (hI f hf).1 (k := k) (by omega) fk goal (nI h)
    have hnx := hgo f k hf h0 (by omega)
    unfold bk
    by_cases e : go c k f ∈ q
    · rw [if_pos e]
      obtain ⟨S1, b1, b2, b3, b4, b5⟩ := hone.1 e
      obtain ⟨S', d1, d2, d3, d4, d5⟩ := ih (k + 1) g S1 q (by omega) (by omega) (by omega) b2 hq b3
      exact ⟨S', b1.trans d1, d2, d3, d4, b4.tr d5⟩
    · rw [if_neg e]
      obtain ⟨S1, b1, b2, b3, b4, b5⟩ := hone.2 e
      obtain ⟨S', d1, d2, d3, d4, d5⟩ := ih (k + 1) g S1 (q ++ [go c k f]) (by omega) (by omega) (by omega) b2 (fun l hl => (List.mem_append.mp hl).elim (hq l) (fun z => by rw [List.mem_singleton.mp z]; exact hnx)) b3
      rw [if_neg (by rw [(hI _ hnx).2]; decide)] at b1
      exact ⟨S', b1.trans d1, d2, d3, d4, b4.tr d5⟩
/-- no line has the letters: all that can be come to is queued -/
theorem find_no {N : Nat} (hN : 20 ≤ N) {c : List Mac} (hc : okC c) (goal : Int32) {I : Ln → Prop} {k0 : Nat} (h0 : k0 ≤ 8 + c.length) (hI : ∀ l, I l → okL l ∧ hasG goal l = false) (hgo : ∀ l k, I l → k0 ≤ k → k < 8 + c.length → I (go c k l)) : ∀ (d h g : Nat) (S : St) (q : List Ln), h + d = 7737 → d < g → QC S q → (∀ l ∈ q, I l) → KC S c → ∃ S', f_X4_find_33 N g S (nI k0) goal (nI h) = some ((-9 : Int32), S') ∧ QC S' (bf c k0 d h q) ∧ KC S' c ∧ frS S S' := by
  have h3 := hc.1
  intro d
  induction d with
  | zero =>
    intro h g S q hh hg hQ hq hK
    obtain ⟨g, rfl⟩ : ∃ e, g = e + 1 := ⟨g - 1, by omega⟩
    have := nd_len hQ.1 hQ.2.1
    exact ⟨S, by rw [f_X4_find_33, hQ.2.2.1, if_pos (nI_le (by omega) (by omega))], hQ, hK, frS.rf S⟩
  | succ d ih =>
    intro h g S q hh hg hQ hq hK
    obtain ⟨g, rfl⟩ : ∃ e, g = e + 1 := ⟨g - 1, by omega⟩
    have := nd_len hQ.1 hQ.2.1
    unfold bf
    by_cases hl : h < q.length
    · obtain ⟨f, hf⟩ : ∃ f, q[h]? = some f := ⟨_, List.getElem?_eq_getElem hl⟩
      have hfI := hq f (List.mem_of_getElem? hf)
      rw [hf]
      dsimp only
      obtain ⟨S1, b1, b2, b3, b4, b5⟩ := find_no1 (N := N) (by omega) hc (f_X4_find_33 N g) (nI k0) goal h hI hgo hfI (8 + c.length - k0) k0 N S q (by omega) (by omega) (Nat.le_refl _) hQ hq hK
      obtain ⟨S', d1, d2, d3, d4⟩ := ih (h + 1) g S1 _ (by omega) (by omega) b2 b3 b4
      refine ⟨S', ?_, d2, d3, b5.tr d4⟩
      rw [f_X4_find_33, hQ.2.2.1, if_neg (nI_ge hl (by omega)), if_neg (nI_ge (by omega) (by omega)), if_pos ((inb_i (by omega)).mpr (by omega)), n_cl (by omega), bnd_e, hQ.2.2.2.1 h f hf, b1, d1]
    · rw [List.getElem?_eq_none (by omega)]
      exact ⟨S, by rw [f_X4_find_33, hQ.2.2.1, if_pos (nI_le (by omega) (by omega))], hQ, hK, frS.rf S⟩
/-- the search's beginning -/
theorem find_0 {N : Nat} (hN : 7740 ≤ N) {c : List Mac} {S : St} (hK : KC S c) {l : Ln} (hl : okL l) (fk goal : Int32) : ∃ S', (f_X4_find N S (nI (cn l)) fk goal = if hasG goal l = true then some (nI (cn l), S') else f_X4_find_33 N N S' fk goal (nI 0)) ∧ QC S' [l] ∧ KC S' c ∧ frS S S' ∧ S' 8 (cn l) = -1 := by
  obtain ⟨S1, b1, b2, b3⟩ := fill_all (N := N) 8 7737 (nI 0) (by omega) (by omega) S
  have hQ : QC (st S1 6 2 (nI 0)) [] := ⟨List.nodup_nil, fun m hm => absurd hm List.not_mem_nil, st_s, fun p l hp => (by cases hp), fun m hm => ⟨fun _ => List.not_mem_nil, fun _ => by rw [st_ne (by decide), b3, if_pos (cn_lt hm)]; rfl⟩⟩
  obtain ⟨S2, d1, d2, d3, d4, d5⟩ := queueUp_ok N hQ hl List.not_mem_nil (v := -1) (by decide)
  have hf : ∀ k, k ≠ 6 → k ≠ 7 → k ≠ 8 → S2 k = S k := fun k h6 h7 h8 => (d5 k h6 h7 h8).trans ((st_ne h6).trans (b2 k h8))
  refine ⟨S2, ?_, d2, hK.S hf, fun k _ a b c => hf k a b c, d4⟩
  rw [f_X4_find, b1, cal_s, bnd_e, d1, cal_s, hasLetters_ok (by omega) S2 goal hl, cal_s, bnd_e]
  cases hasG goal l
  · rw [if_pos (by rfl), if_neg (by decide)]
  · rw [if_neg (by decide), if_pos rfl]
/-! come -/
def QM (S : St) (q : List Ln) : Prop := q.Nodup ∧ (∀ m ∈ q, okL m) ∧ (∀ p l, q[p]? = some l → S 50 p = nI (rn l)) ∧ ∀ m, okL m → S 51 (rn m) = nI (if m ∈ q then 1 else 0)
theorem come_1 {N : Nat} {c : List Mac} (hc : okC c) (k50 : St → Int32 → Int32 → Option (Int32 × St)) {h : Nat} {f : Ln} (hf : okL f) : ∀ (d k g : Nat) (S : St) (q : List Ln), k + d = 8 + c.length → d < g → QM S q → q[h]? = some f → CfM S c → mkT S c (8 + c.length) → ∃ S', f_X7_come_58 N k50 g S (nI q.length) (nI h) (nI k) = k50 S' (nI (bk c f d k q).length) (nI (h + 1)) ∧ QM S' (bk c f d k q) ∧ frQ S S' := by
  have h3 := hc.1
  intro d
  induction d with
  | zero =>
    intro k g S q hk hg hQ hh hM hT
    obtain ⟨g, rfl⟩ : ∃ e, g = e + 1 := ⟨g - 1, by omega⟩
    refine ⟨S, ?_, hQ, frQ.rf S⟩
    rw [f_X7_come_58, f_X7_keysThere, cal_s, hM.1, n_add, if_pos (nI_le (by omega) (by omega)), bnd_e, n_add]
    rfl
  | succ d ih =>
    intro k g S q hk hg hQ hh hM hT
    obtain ⟨g, rfl⟩ : ∃ e, g = e + 1 := ⟨g - 1, by omega⟩
    have hlen := nd_len hQ.1 hQ.2.1
    have hlt := (List.getElem?_eq_some_iff.mp hh).1
    have hgo := go_ok hc (k := k) (by omega) hf
    have hrf := rn_lt hf
    have hrg := rn_lt hgo
    have hing : inb (nI (rn (go c k f))) 7737 = true := (inb_i (by omega)).mpr hrg
    rw [f_X7_come_58, f_X7_keysThere, cal_s, hM.1, n_add, if_neg (nI_ge (by omega) (by omega)), if_pos ((inb_i (by omega)).mpr (by omega)), n_cl (a := h) (by omega), hQ.2.2.1 h f hh, n_mul, n_add, if_pos ((inb_i (by omega)).mpr (by omega)), bnd_e, n_cl (a := 7737 * k + rn f) (by omega), hT k f (by omega) hf, if_pos hing, n_cl (a := rn (go c k f)) (by omega), hQ.2.2.2 _ hgo, bnd_e, n_add]
    unfold bk
    by_cases e : go c k f ∈ q
    · rw [if_pos e, if_pos e, if_neg (by decide), bnd_e, n_add]
      exact ih (k + 1) g S q (by omega) (by omega) hQ hh hM hT
    · have hl7 := nd_lt hQ.1 hQ.2.1 hgo e
      rw [if_neg e, if_neg e, if_pos (by rfl), if_pos hing, bnd_e, if_pos ((inb_i (by omega)).mpr hl7), n_cl (by omega), bnd_e, bnd_e, n_add]
      have hq2 : QM (st (st S 51 (rn (go c k f)) (nI 1)) 50 q.length (nI (rn (go c k f)))) (q ++ [go c k f]) := by
        refine ⟨nd_snoc hQ.1 e, ok_snoc hQ.2.1 hgo, fun p l hp => ?_, fun m hm => ?_⟩
        · by_cases ep : p < q.length
          · rw [List.getElem?_append_left ep] at hp
            rw [st_n (by omega), st_ne (by decide)]
            exact hQ.2.2.1 p l hp
          · rw [List.getElem?_append_right (by omega)] at hp
            have hpl : p = q.length := by
              rcases Nat.lt_or_ge (p - q.length) 1 with z | z
              · omega
              · rw [List.getElem?_eq_none (by exact z)] at hp; cases hp
            subst hpl
            rw [Nat.sub_self] at hp
            have : go c k f = l := Option.some.inj hp
            rw [st_s, this]
        · rw [st_ne (by decide)]
          by_cases em : m = go c k f
          · rw [em, st_s, if_pos (List.mem_append_right _ (List.mem_singleton.mpr rfl))]
          · rw [st_n (fun z => em (rn_inj hm hgo z)), hQ.2.2.2 m hm]
            by_cases hm2 : m ∈ q
            · rw [if_pos hm2, if_pos (List.mem_append_left _ hm2)]
            · rw [if_neg hm2, if_neg (fun z => (List.mem_append.mp z).elim hm2 (fun w => em (List.mem_singleton.mp w)))]
      have hfq : frQ S (st (st S 51 (rn (go c k f)) (nI 1)) 50 q.length (nI (rn (go c k f)))) := (frQ.st (by decide) _ _ _).tr (frQ.st (by decide) _ _ _)
      obtain ⟨S', b1, b2, b3⟩ := ih (k + 1) g _ (q ++ [go c k f]) (by omega) (by omega) hq2 (by rw [List.getElem?_append_left hlt]; exact hh) (hM.eq (by rw [hfq 32 (by decide) (by decide)]) ⟨hfq 36 (by decide) (by decide), hfq 37 (by decide) (by decide), hfq 38 (by decide) (by decide), hfq 39 (by decide) (by decide)⟩) (hT.Q (hfq 49 (by decide) (by decide)))
      rw [List.length_append] at b1
      exact ⟨S', b1, b2, hfq.tr b3⟩
theorem CfM.Q {S S' : St} {c : List Mac} (h : CfM S c) (hf : frQ S S') : CfM S' c := h.eq (by rw [hf 32 (by decide) (by decide)]) ⟨hf 36 (by decide) (by decide), hf 37 (by decide) (by decide), hf 38 (by decide) (by decide), hf 39 (by decide) (by decide)⟩
theorem come_2 {N : Nat} (hN : 20 ≤ N) {c : List Mac} (hc : okC c) : ∀ (d h g : Nat) (S : St) (q : List Ln), h + d = 7737 → d < g → QM S q → CfM S c → mkT S c (8 + c.length) → ∃ S', f_X7_come_50 N g S (nI q.length) (nI h) = some (nI (bf c 8 d h q).length, S') ∧ frQ S S' := by
  have h3 := hc.1
  intro d
  induction d with
  | zero =>
    intro h g S q hh hg hQ hM hT
    obtain ⟨g, rfl⟩ : ∃ e, g = e + 1 := ⟨g - 1, by omega⟩
    have := nd_len hQ.1 hQ.2.1
    exact ⟨S, by rw [f_X7_come_50, if_pos (nI_le (by omega) (by omega))]; rfl, frQ.rf S⟩
  | succ d ih =>
    intro h g S q hh hg hQ hM hT
    obtain ⟨g, rfl⟩ : ∃ e, g = e + 1 := ⟨g - 1, by omega⟩
    have := nd_len hQ.1 hQ.2.1
    unfold bf
    by_cases hl : h < q.length
    · obtain ⟨f, hf⟩ : ∃ f, q[h]? = some f := ⟨_, List.getElem?_eq_getElem hl⟩
      have hfo := hQ.2.1 f (List.mem_of_getElem? hf)
      rw [hf]
      dsimp only
      obtain ⟨S1, b1, b2, b3⟩ := come_1 (N := N) hc (f_X7_come_50 N g) hfo (8 + c.length - 8) 8 N S q (by omega) (by omega) hQ hf hM hT
      obtain ⟨S', d1, d2⟩ := ih (h + 1) g S1 _ (by omega) (by omega) b2 (hM.Q b3) (hT.Q (b3 49 (by decide) (by decide)))
      refine ⟨S', ?_, b3.tr d2⟩
      rw [f_X7_come_50, if_neg (nI_ge hl (by omega)), bnd_e, b1, d1]
    · rw [List.getElem?_eq_none (by omega)]
      exact ⟨S, by rw [f_X7_come_50, if_pos (nI_le (by omega) (by omega))], frQ.rf S⟩
theorem come_f {N : Nat} : ∀ (d x g : Nat) (S : St), x + d = 7737 → d < g → ∃ S', f_X7_come_6 N g S (nI x) = f_X7_come_6 N 1 S' (nI 7737) ∧ (∀ k, k ≠ 51 → S' k = S k) ∧ (∀ y, x ≤ y → y < 7737 → S' 51 y = nI 0) ∧ ∀ y, y < x → S' 51 y = S 51 y := by
  intro d
  induction d with
  | zero =>
    intro x g S hx hg
    obtain ⟨g, rfl⟩ : ∃ e, g = e + 1 := ⟨g - 1, by omega⟩
    have hx : x = 7737 := by omega
    subst hx
    exact ⟨S, by rw [f_X7_come_6, f_X7_come_6, if_pos (nI_le (by omega) (by omega)), if_pos (nI_le (by omega) (by omega))], fun _ _ => rfl, fun y h1 h2 => by omega, fun _ _ => rfl⟩
  | succ d ih =>
    intro x g S hx hg
    obtain ⟨g, rfl⟩ : ∃ e, g = e + 1 := ⟨g - 1, by omega⟩
    obtain ⟨S', b1, b2, b3, b4⟩ := ih (x + 1) g (st S 51 x (nI 0)) (by omega) (by omega)
    refine ⟨S', ?_, fun k hk => (b2 k hk).trans (st_ne hk), fun y h1 h2 => ?_, fun y hy => by rw [b4 y (by omega), st_n (by omega)]⟩
    · rw [← b1, f_X7_come_6, if_neg (nI_ge (by omega) (by omega)), if_pos ((inb_i (by omega)).mpr (by omega)), n_cl (by omega), bnd_e, bnd_e, n_add]
    · by_cases e : y = x
      · subst e; rw [b4 y (by omega), st_s]
      · exact b3 y (by omega) h2
theorem b_come {N : Nat} (hN : 7740 ≤ N) : Both (fun S => f_X6_come N S) (fun S => f_X7_come N S) := by
  refine Both.of fun a ha => ?_
  have h3 := ha.1.1
  have hl := ha.2.1
  have hno : ∀ l, okL l → hasG (-9) l = false := fun l hl => by
    have := cn_lt (act_ok hl (key := 7) (by decide))
    exact decide_eq_false (n_9 (by omega))
  refine ⟨nI (bf a.1 8 7737 0 [a.2.1]).length, a, fun S hC => ?_, fun S hM => ?_⟩
  · obtain ⟨S1, b1, b2, b3, b4, b5⟩ := find_0 hN hC.2.1 hl (nI 8) (-9)
    obtain ⟨S', d1, d2, d3, d4⟩ := find_no (N := N) (by omega) ha.1 (-9) (I := okL) (k0 := 8) (by omega) (fun l hl => ⟨hl, hno l hl⟩) (fun l k hl _ hk => go_ok ha.1 hk hl) 7737 0 N S1 [a.2.1] (by omega) (by omega) b2 (fun l hl => b2.2.1 l hl) b3
    refine ⟨S', ?_, hC.ofS d3 (b4.tr d4), (b4.tr d4).C⟩
    show f_X6_come N S = _
    rw [f_X6_come, hC.2.2.1, f_X4_reachable, b1, if_neg (by rw [hno _ hl]; decide), d1, cal_s, cal_s, d2.2.2.1]
  · obtain ⟨S1, b1, b2, b3, b4⟩ := findMakes_ok hN hM
    obtain ⟨S2, d1, d2, d3, d4⟩ := come_f (N := N) 7737 0 N S1 (by omega) (by omega)
    have hr := rn_lt hl
    have hq : QM (st (st S2 51 (rn a.2.1) (nI 1)) 50 0 (nI (rn a.2.1))) [a.2.1] := by
      refine ⟨List.nodup_cons.mpr ⟨List.not_mem_nil, List.nodup_nil⟩, fun m hm => by rw [List.mem_singleton.mp hm]; exact hl, fun p l hp => ?_, fun m hm => ?_⟩
      · have hp0 : p = 0 := by
          rcases Nat.lt_or_ge p 1 with z | z
          · omega
          · rw [List.getElem?_eq_none (by exact z)] at hp; cases hp
        subst hp0
        have : a.2.1 = l := Option.some.inj hp
        rw [st_s, this]
      · rw [st_ne (by decide)]
        by_cases em : m = a.2.1
        · rw [em, st_s, if_pos (List.mem_singleton.mpr rfl)]
        · rw [st_n (fun z => em (rn_inj hm hl z)), if_neg (fun z => em (List.mem_singleton.mp z))]
          exact d3 _ (Nat.zero_le _) (rn_lt hm)
    have hfq : frQ S1 (st (st S2 51 (rn a.2.1) (nI 1)) 50 0 (nI (rn a.2.1))) := frQ.tr (fun k _ h => d2 k h) ((frQ.st (by decide) _ _ _).tr (frQ.st (by decide) _ _ _))
    obtain ⟨S', e1, e2⟩ := come_2 (N := N) (by omega) ha.1 7737 0 N _ [a.2.1] (by omega) (by omega) hq (b2.2.1.Q hfq) (b4.Q (hfq 49 (by decide) (by decide)))
    refine ⟨S', ?_, b2.Q (hfq.tr e2), b3.tr (hfq.tr e2).M⟩
    show f_X7_come N S = _
    have h7 : S2 32 7 = nI (rn a.2.1) := by rw [d2 32 (by decide)]; exact b2.2.2.1
    rw [f_X7_come, b1, cal_s, bnd_e, d1, f_X7_come_6, if_pos (nI_le (by omega) (by omega)), h7, if_pos ((inb_i (by omega)).mpr hr), n_cl (by omega), bnd_e, if_pos ((inb_i (by omega)).mpr (by omega)), n_cl (by omega), st_ne (a := 32) (by decide), h7, bnd_e, bnd_e, bnd_e]
    exact e1
