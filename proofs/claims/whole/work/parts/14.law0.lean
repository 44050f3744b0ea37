theorem q_1_0 : Cond.classLink RL 7 RX6 ∈ wsL_law := rin_1 _ (List.mem_of_getElem? (i := 0) rfl)
theorem q_1_1 : Cond.instantiable RX6 11 ∈ wsL_law := rin_1 _ (List.mem_of_getElem? (i := 1) rfl)
theorem q_1_3 : Cond.classLink RL 10 RX7 ∈ wsL_law := rin_1 _ (List.mem_of_getElem? (i := 3) rfl)
theorem q_1_4 : Cond.instantiable RX7 35 ∈ wsL_law := rin_1 _ (List.mem_of_getElem? (i := 4) rfl)
theorem q_1_6 : Cond.methodLink RL 9 yX6_init ∈ wsL_law := rin_1 _ (List.mem_of_getElem? (i := 6) rfl)
theorem q_1_7 : Cond.instanceMethod yX6_init ∈ wsL_law := rin_1 _ (List.mem_of_getElem? (i := 7) rfl)
theorem q_1_8 : Cond.code yX6_init cX6_init 1 none ∈ wsL_law := rin_1 _ (List.mem_of_getElem? (i := 8) rfl)
theorem q_3_13 : Cond.methodLink RL 12 yX7_init ∈ wsL_law := rin_3 _ (List.mem_of_getElem? (i := 13) rfl)
theorem q_3_14 : Cond.instanceMethod yX7_init ∈ wsL_law := rin_3 _ (List.mem_of_getElem? (i := 14) rfl)
theorem q_3_15 : Cond.code yX7_init cX7_init 1 none ∈ wsL_law := rin_3 _ (List.mem_of_getElem? (i := 15) rfl)
/-! the law from its entry to its loop: the world of 54 cells -/
def S_0 : St := fun k => if k = 33 then upd (upd (upd (upd (fun _ => 0) (0 : Int32).toNatClampNeg (-9)) (1 : Int32).toNatClampNeg (-9)) (2 : Int32).toNatClampNeg (-9)) (3 : Int32).toNatClampNeg (-9) else if 12 ≤ k ∧ k < 16 then fun j => if j = 0 then -1 else 0 else fun _ => 0
theorem RA_eq {U : State} {c d : ClassId} {C : String} (h1 : va_RA U c (.object C)) (h2 : va_RA U d (.object C)) : c = d := by
  obtain ⟨k1, p1, a1, a2, a3, a4⟩ := h1
  obtain ⟨k2, p2, b1, b2, b3, b4⟩ := h2
  exact Option.some.inj (a4.symm.trans b4)
theorem at_arr {D : va_G} {q n : Nat} {ca : ClassId} {f g : Nat → Option Nat} {H : Heap} (h : va_at D vwCl (q, .inl (ca, n, .inr (.inr (.inr (.inr f))))) H) (hfg : ∀ j, j < n → f j = g j) : va_at D vwCl (q, .inl (ca, n, .inr (.inr (.inr (.inr g))))) H := by
  have h1 : H[q]? = some (arrV ca n (fun j => va_rf (f j))) := h
  have h2 : arrV ca n (fun j => va_rf (f j)) = arrV ca n (fun j => va_rf (g j)) := by
    unfold arrV
    congr 1
    congr 1
    funext j
    show va_rf (f j.val) = va_rf (g j.val)
    rw [hfg j.val j.isLt]
  rw [h2] at h1
  exact h1
theorem all54 {P : Nat → Prop} (h0 : P 0) (h1 : P 1) (h2 : P 2) (h3 : P 3) (h4 : P 4) (h5 : P 5) (h6 : P 6) (h7 : P 7) (h8 : P 8) (h9 : P 9) (h10 : P 10) (h11 : P 11) (h12 : P 12) (h13 : P 13) (h14 : P 14) (h15 : P 15) (h16 : P 16) (h17 : P 17) (h18 : P 18) (h19 : P 19) (h20 : P 20) (h21 : P 21) (h22 : P 22) (h23 : P 23) (h24 : P 24) (h25 : P 25) (h26 : P 26) (h27 : P 27) (h28 : P 28) (h29 : P 29) (h30 : P 30) (h31 : P 31) (h32 : P 32) (h33 : P 33) (h34 : P 34) (h35 : P 35) (h36 : P 36) (h37 : P 37) (h38 : P 38) (h39 : P 39) (h40 : P 40) (h41 : P 41) (h42 : P 42) (h43 : P 43) (h44 : P 44) (h45 : P 45) (h46 : P 46) (h47 : P 47) (h48 : P 48) (h49 : P 49) (h50 : P 50) (h51 : P 51) (h52 : P 52) (h53 : P 53) : ∀ i, i < 54 → P i := by
  exact (lt_s (lt_s (lt_s (lt_s (lt_s (lt_s (lt_s (lt_s (lt_s (lt_s (lt_s (lt_s (lt_s (lt_s (lt_s (lt_s (lt_s (lt_s (lt_s (lt_s (lt_s (lt_s (lt_s (lt_s (lt_s (lt_s (lt_s (lt_s (lt_s (lt_s (lt_s (lt_s (lt_s (lt_s (lt_s (lt_s (lt_s (lt_s (lt_s (lt_s (lt_s (lt_s (lt_s (lt_s (lt_s (lt_s (lt_s (lt_s (lt_s (lt_s (lt_s (lt_s (lt_s (lt_s lt_0 h0) h1) h2) h3) h4) h5) h6) h7) h8) h9) h10) h11) h12) h13) h14) h15) h16) h17) h18) h19) h20) h21) h22) h23) h24) h25) h26) h27) h28) h29) h30) h31) h32) h33) h34) h35) h36) h37) h38) h39) h40) h41) h42) h43) h44) h45) h46) h47) h48) h49) h50) h51) h52) h53)
def plc (i : Nat) : Nat := ([0, 1, 2, 9, 10, 11, 18, 19, 20, 21, 30, 31, 22, 24, 26, 28, 23, 25, 27, 29, 3, 5, 7, 12, 14, 16, 4, 6, 8, 13, 15, 17, 32, 33, 34, 35, 36, 37, 38, 39, 40, 41, 42, 43, 44, 45, 46, 47, 48, 49, 50, 51, 52, 53] : List Nat).getD i 0
theorem plc_inj : ∀ i, i < 54 → ∀ j, j < 54 → plc i = plc j → i = j := by decide +kernel
def WLb (E : Ev) : va_W := [((bb E 0), .inr (5, [.ref (bb E 1), .ref (bb E 4), .ref (bb E 6), .ref (bb E 9), .ref (bb E 10), .ref (bb E 11), .int 0, .int (0 : Int32), .int 0, .int 0, .int (0 : Int32)])), ((bb E 1), .inr (0, [.int 0, .ref (bb E 2), .ref (bb E 3)])), ((bb E 2), .inl (E.2.2.1, 3, .inr (.inr (.inr (.inr (va_up (va_up (va_up (fun _ => none) ((0 : Int32)).toNatClampNeg (some (bb E 20))) ((1 : Int32)).toNatClampNeg (some (bb E 21))) ((2 : Int32)).toNatClampNeg (some (bb E 22)))))))), ((bb E 20), .inr (1, [.int 0, .int 0, .int 0, .ref (bb E 26)])), ((bb E 26), .inl (E.2.1, 4, .inl (fun _ => 0))), ((bb E 21), .inr (1, [.int 0, .int 0, .int 0, .ref (bb E 27)])), ((bb E 27), .inl (E.2.1, 4, .inl (fun _ => 0))), ((bb E 22), .inr (1, [.int 0, .int 0, .int 0, .ref (bb E 28)])), ((bb E 28), .inl (E.2.1, 4, .inl (fun _ => 0))), ((bb E 3), .inl (E.2.1, 23211, .inl (fun _ => 0))), ((bb E 4), .inr (2, [.ref (bb E 5), .int 0, .ref (bb E 23), .int 0])), ((bb E 5), .inl (E.2.2.1, 3, .inr (.inr (.inr (.inr (va_up (va_up (va_up (fun _ => none) ((0 : Int32)).toNatClampNeg (some (bb E 23))) ((1 : Int32)).toNatClampNeg (some (bb E 24))) ((2 : Int32)).toNatClampNeg (some (bb E 25)))))))), ((bb E 23), .inr (1, [.int 0, .int 0, .int 0, .ref (bb E 29)])), ((bb E 29), .inl (E.2.1, 4, .inl (fun _ => 0))), ((bb E 24), .inr (1, [.int 0, .int 0, .int 0, .ref (bb E 30)])), ((bb E 30), .inl (E.2.1, 4, .inl (fun _ => 0))), ((bb E 25), .inr (1, [.int 0, .int 0, .int 0, .ref (bb E 31)])), ((bb E 31), .inl (E.2.1, 4, .inl (fun _ => 0))), ((bb E 6), .inr (3, [.ref (bb E 7), .ref (bb E 8), .int 0])), ((bb E 7), .inl (E.2.1, 7737, .inl (fun _ => 0))), ((bb E 8), .inl (E.2.1, 7737, .inl (fun _ => 0))), ((bb E 9), .inl (E.2.2.2.1, 4, .inr (.inr (.inr (.inr (va_up (va_up (va_up (va_up (fun _ => none) ((0 : Int32)).toNatClampNeg (some (bb E 12))) ((1 : Int32)).toNatClampNeg (some (bb E 13))) ((2 : Int32)).toNatClampNeg (some (bb E 14))) ((3 : Int32)).toNatClampNeg (some (bb E 15)))))))), ((bb E 12), .inr (4, [.int (-1 : Int32), .int 0, .ref (bb E 16)])), ((bb E 16), .inl (E.2.1, 60, .inl (fun _ => 0))), ((bb E 13), .inr (4, [.int (-1 : Int32), .int 0, .ref (bb E 17)])), ((bb E 17), .inl (E.2.1, 60, .inl (fun _ => 0))), ((bb E 14), .inr (4, [.int (-1 : Int32), .int 0, .ref (bb E 18)])), ((bb E 18), .inl (E.2.1, 60, .inl (fun _ => 0))), ((bb E 15), .inr (4, [.int (-1 : Int32), .int 0, .ref (bb E 19)])), ((bb E 19), .inl (E.2.1, 60, .inl (fun _ => 0))), ((bb E 10), .inl (E.2.1, 8, .inl (fun _ => 0))), ((bb E 11), .inl (E.2.1, 8, .inl (fun _ => 0))), ((bb E 32), .inr (6, [.int 0, .int 0, .ref (bb E 33), .ref (bb E 34), .ref (bb E 35), .int 0, .int 0, .int 0, .ref (bb E 36), .ref (bb E 37), .ref (bb E 38), .ref (bb E 39), .int 0, .int 0, .ref (bb E 40), .ref (bb E 41), .ref (bb E 42), .ref (bb E 43), .ref (bb E 44), .ref (bb E 45), .int 0, .int 0, .int 0, .ref (bb E 46), .ref (bb E 47), .ref (bb E 48), .int 0, .int 0, .int 0, .ref (bb E 49), .ref (bb E 50), .ref (bb E 51), .int 0, .ref (bb E 52), .ref (bb E 53)])), ((bb E 33), .inl (E.2.1, 4, .inl (upd (upd (upd (upd (fun _ => 0) ((0 : Int32)).toNatClampNeg (-9 : Int32)) ((1 : Int32)).toNatClampNeg (-9 : Int32)) ((2 : Int32)).toNatClampNeg (-9 : Int32)) ((3 : Int32)).toNatClampNeg (-9 : Int32)))), ((bb E 34), .inl (E.2.1, 4, .inl (fun _ => 0))), ((bb E 35), .inl (E.2.1, 240, .inl (fun _ => 0))), ((bb E 36), .inl (E.2.1, 3, .inl (fun _ => 0))), ((bb E 37), .inl (E.2.1, 3, .inl (fun _ => 0))), ((bb E 38), .inl (E.2.1, 3, .inl (fun _ => 0))), ((bb E 39), .inl (E.2.1, 12, .inl (fun _ => 0))), ((bb E 40), .inl (E.2.1, 3, .inl (fun _ => 0))), ((bb E 41), .inl (E.2.1, 3, .inl (fun _ => 0))), ((bb E 42), .inl (E.2.1, 3, .inl (fun _ => 0))), ((bb E 43), .inl (E.2.1, 12, .inl (fun _ => 0))), ((bb E 44), .inl (E.2.1, 3, .inl (fun _ => 0))), ((bb E 45), .inl (E.2.1, 5, .inl (fun _ => 0))), ((bb E 46), .inl (E.2.1, 3, .inl (fun _ => 0))), ((bb E 47), .inl (E.2.1, 3, .inl (fun _ => 0))), ((bb E 48), .inl (E.2.1, 3, .inl (fun _ => 0))), ((bb E 49), .inl (E.2.1, 85107, .inl (fun _ => 0))), ((bb E 50), .inl (E.2.1, 7737, .inl (fun _ => 0))), ((bb E 51), .inl (E.2.1, 7737, .inl (fun _ => 0))), ((bb E 52), .inl (E.2.1, 8, .inl (fun _ => 0))), ((bb E 53), .inl (E.2.1, 8, .inl (fun _ => 0)))]
theorem s0_z {k : Nat} (h : k ≠ 33) (h2 : ¬ (12 ≤ k ∧ k < 16)) : S_0 k = fun _ => 0 := by unfold S_0; rw [if_neg h, if_neg h2]
theorem s0_s {k : Nat} (h : k ≠ 33) (h2 : 12 ≤ k ∧ k < 16) : S_0 k = fun j => if j = 0 then -1 else 0 := by unfold S_0; rw [if_neg h, if_pos h2]
theorem tw_0 {E : Ev} {H : Heap} (hP : va_P E.1 vwCl (WLb E) H) : va_at E.1 vwCl (bb E 0, en E 0 (S_0 0)) H := by
  rw [e_0, s0_z (by decide) (by decide)]
  exact hP 0 _ rfl
theorem tw_1 {E : Ev} {H : Heap} (hP : va_P E.1 vwCl (WLb E) H) : va_at E.1 vwCl (bb E 1, en E 1 (S_0 1)) H := by
  rw [e_1, s0_z (by decide) (by decide)]
  exact hP 1 _ rfl
theorem tw_2 {E : Ev} {H : Heap} (hP : va_P E.1 vwCl (WLb E) H) : va_at E.1 vwCl (bb E 2, en E 2 (S_0 2)) H := by
  rw [e_2]
  exact at_arr (hP 2 _ rfl) (fun j hj => by rcases (show j = 0 ∨ j = 1 ∨ j = 2 by omega) with rfl | rfl | rfl <;> rfl)
theorem tw_3 {E : Ev} {H : Heap} (hP : va_P E.1 vwCl (WLb E) H) : va_at E.1 vwCl (bb E 3, en E 3 (S_0 3)) H := by
  have ha := (a_3 E).2 (S_0 3)
  have hq := hP 9 _ rfl
  rw [s0_z (by decide) (by decide)] at ha ⊢
  exact (congrArg (fun z => va_at E.1 vwCl (bb E 3, z) H) ha).mpr hq
theorem tw_4 {E : Ev} {H : Heap} (hP : va_P E.1 vwCl (WLb E) H) : va_at E.1 vwCl (bb E 4, en E 4 (S_0 4)) H := by
  rw [e_4, s0_z (by decide) (by decide)]
  exact hP 10 _ rfl
theorem tw_5 {E : Ev} {H : Heap} (hP : va_P E.1 vwCl (WLb E) H) : va_at E.1 vwCl (bb E 5, en E 5 (S_0 5)) H := by
  rw [e_5]
  exact at_arr (hP 11 _ rfl) (fun j hj => by rcases (show j = 0 ∨ j = 1 ∨ j = 2 by omega) with rfl | rfl | rfl <;> rfl)
theorem tw_6 {E : Ev} {H : Heap} (hP : va_P E.1 vwCl (WLb E) H) : va_at E.1 vwCl (bb E 6, en E 6 (S_0 6)) H := by
  rw [e_6, s0_z (by decide) (by decide)]
  exact hP 18 _ rfl
theorem tw_7 {E : Ev} {H : Heap} (hP : va_P E.1 vwCl (WLb E) H) : va_at E.1 vwCl (bb E 7, en E 7 (S_0 7)) H := by
  have ha := (a_7 E).2 (S_0 7)
  have hq := hP 19 _ rfl
  rw [s0_z (by decide) (by decide)] at ha ⊢
  exact (congrArg (fun z => va_at E.1 vwCl (bb E 7, z) H) ha).mpr hq
theorem tw_8 {E : Ev} {H : Heap} (hP : va_P E.1 vwCl (WLb E) H) : va_at E.1 vwCl (bb E 8, en E 8 (S_0 8)) H := by
  have ha := (a_8 E).2 (S_0 8)
  have hq := hP 20 _ rfl
  rw [s0_z (by decide) (by decide)] at ha ⊢
  exact (congrArg (fun z => va_at E.1 vwCl (bb E 8, z) H) ha).mpr hq
theorem tw_9 {E : Ev} {H : Heap} (hP : va_P E.1 vwCl (WLb E) H) : va_at E.1 vwCl (bb E 9, en E 9 (S_0 9)) H := by
  rw [e_9]
  exact at_arr (hP 21 _ rfl) (fun j hj => by rcases (show j = 0 ∨ j = 1 ∨ j = 2 ∨ j = 3 by omega) with rfl | rfl | rfl | rfl <;> rfl)
theorem tw_10 {E : Ev} {H : Heap} (hP : va_P E.1 vwCl (WLb E) H) : va_at E.1 vwCl (bb E 10, en E 10 (S_0 10)) H := by
  have ha := (a_10 E).2 (S_0 10)
  have hq := hP 30 _ rfl
  rw [s0_z (by decide) (by decide)] at ha ⊢
  exact (congrArg (fun z => va_at E.1 vwCl (bb E 10, z) H) ha).mpr hq
theorem tw_11 {E : Ev} {H : Heap} (hP : va_P E.1 vwCl (WLb E) H) : va_at E.1 vwCl (bb E 11, en E 11 (S_0 11)) H := by
  have ha := (a_11 E).2 (S_0 11)
  have hq := hP 31 _ rfl
  rw [s0_z (by decide) (by decide)] at ha ⊢
  exact (congrArg (fun z => va_at E.1 vwCl (bb E 11, z) H) ha).mpr hq
theorem tw_12 {E : Ev} {H : Heap} (hP : va_P E.1 vwCl (WLb E) H) : va_at E.1 vwCl (bb E 12, en E 12 (S_0 12)) H := by
  rw [s0_s (by decide) (by decide), show en E 12 = en E (12 + 0) from rfl, e_sh _ (by decide)]
  exact hP 22 _ rfl
theorem tw_13 {E : Ev} {H : Heap} (hP : va_P E.1 vwCl (WLb E) H) : va_at E.1 vwCl (bb E 13, en E 13 (S_0 13)) H := by
  rw [s0_s (by decide) (by decide), show en E 13 = en E (12 + 1) from rfl, e_sh _ (by decide)]
  exact hP 24 _ rfl
theorem tw_14 {E : Ev} {H : Heap} (hP : va_P E.1 vwCl (WLb E) H) : va_at E.1 vwCl (bb E 14, en E 14 (S_0 14)) H := by
  rw [s0_s (by decide) (by decide), show en E 14 = en E (12 + 2) from rfl, e_sh _ (by decide)]
  exact hP 26 _ rfl
theorem tw_15 {E : Ev} {H : Heap} (hP : va_P E.1 vwCl (WLb E) H) : va_at E.1 vwCl (bb E 15, en E 15 (S_0 15)) H := by
  rw [s0_s (by decide) (by decide), show en E 15 = en E (12 + 3) from rfl, e_sh _ (by decide)]
  exact hP 28 _ rfl
theorem tw_16 {E : Ev} {H : Heap} (hP : va_P E.1 vwCl (WLb E) H) : va_at E.1 vwCl (bb E 16, en E 16 (S_0 16)) H := by
  have ha := (a_sh E (j := 0) (by decide)).2 (S_0 16)
  have hq := hP 23 _ rfl
  rw [s0_z (by decide) (by decide)] at ha ⊢
  exact (congrArg (fun z => va_at E.1 vwCl (bb E 16, z) H) ha).mpr hq
theorem tw_17 {E : Ev} {H : Heap} (hP : va_P E.1 vwCl (WLb E) H) : va_at E.1 vwCl (bb E 17, en E 17 (S_0 17)) H := by
  have ha := (a_sh E (j := 1) (by decide)).2 (S_0 17)
  have hq := hP 25 _ rfl
  rw [s0_z (by decide) (by decide)] at ha ⊢
  exact (congrArg (fun z => va_at E.1 vwCl (bb E 17, z) H) ha).mpr hq
theorem tw_18 {E : Ev} {H : Heap} (hP : va_P E.1 vwCl (WLb E) H) : va_at E.1 vwCl (bb E 18, en E 18 (S_0 18)) H := by
  have ha := (a_sh E (j := 2) (by decide)).2 (S_0 18)
  have hq := hP 27 _ rfl
  rw [s0_z (by decide) (by decide)] at ha ⊢
  exact (congrArg (fun z => va_at E.1 vwCl (bb E 18, z) H) ha).mpr hq
theorem tw_19 {E : Ev} {H : Heap} (hP : va_P E.1 vwCl (WLb E) H) : va_at E.1 vwCl (bb E 19, en E 19 (S_0 19)) H := by
  have ha := (a_sh E (j := 3) (by decide)).2 (S_0 19)
  have hq := hP 29 _ rfl
  rw [s0_z (by decide) (by decide)] at ha ⊢
  exact (congrArg (fun z => va_at E.1 vwCl (bb E 19, z) H) ha).mpr hq
theorem tw_20 {E : Ev} {H : Heap} (hP : va_P E.1 vwCl (WLb E) H) : va_at E.1 vwCl (bb E 20, en E 20 (S_0 20)) H := by
  rw [s0_z (by decide) (by decide), show en E 20 = en E (20 + 0) from rfl, e_mk _ (by decide)]
  exact hP 3 _ rfl
theorem tw_21 {E : Ev} {H : Heap} (hP : va_P E.1 vwCl (WLb E) H) : va_at E.1 vwCl (bb E 21, en E 21 (S_0 21)) H := by
  rw [s0_z (by decide) (by decide), show en E 21 = en E (20 + 1) from rfl, e_mk _ (by decide)]
  exact hP 5 _ rfl
theorem tw_22 {E : Ev} {H : Heap} (hP : va_P E.1 vwCl (WLb E) H) : va_at E.1 vwCl (bb E 22, en E 22 (S_0 22)) H := by
  rw [s0_z (by decide) (by decide), show en E 22 = en E (20 + 2) from rfl, e_mk _ (by decide)]
  exact hP 7 _ rfl
theorem tw_23 {E : Ev} {H : Heap} (hP : va_P E.1 vwCl (WLb E) H) : va_at E.1 vwCl (bb E 23, en E 23 (S_0 23)) H := by
  rw [s0_z (by decide) (by decide), show en E 23 = en E (20 + 3) from rfl, e_mk _ (by decide)]
  exact hP 12 _ rfl
theorem tw_24 {E : Ev} {H : Heap} (hP : va_P E.1 vwCl (WLb E) H) : va_at E.1 vwCl (bb E 24, en E 24 (S_0 24)) H := by
  rw [s0_z (by decide) (by decide), show en E 24 = en E (20 + 4) from rfl, e_mk _ (by decide)]
  exact hP 14 _ rfl
theorem tw_25 {E : Ev} {H : Heap} (hP : va_P E.1 vwCl (WLb E) H) : va_at E.1 vwCl (bb E 25, en E 25 (S_0 25)) H := by
  rw [s0_z (by decide) (by decide), show en E 25 = en E (20 + 5) from rfl, e_mk _ (by decide)]
  exact hP 16 _ rfl
theorem tw_26 {E : Ev} {H : Heap} (hP : va_P E.1 vwCl (WLb E) H) : va_at E.1 vwCl (bb E 26, en E 26 (S_0 26)) H := by
  have ha := (a_mk E (j := 0) (by decide)).2 (S_0 26)
  have hq := hP 4 _ rfl
  rw [s0_z (by decide) (by decide)] at ha ⊢
  exact (congrArg (fun z => va_at E.1 vwCl (bb E 26, z) H) ha).mpr hq
theorem tw_27 {E : Ev} {H : Heap} (hP : va_P E.1 vwCl (WLb E) H) : va_at E.1 vwCl (bb E 27, en E 27 (S_0 27)) H := by
  have ha := (a_mk E (j := 1) (by decide)).2 (S_0 27)
  have hq := hP 6 _ rfl
  rw [s0_z (by decide) (by decide)] at ha ⊢
  exact (congrArg (fun z => va_at E.1 vwCl (bb E 27, z) H) ha).mpr hq
theorem tw_28 {E : Ev} {H : Heap} (hP : va_P E.1 vwCl (WLb E) H) : va_at E.1 vwCl (bb E 28, en E 28 (S_0 28)) H := by
  have ha := (a_mk E (j := 2) (by decide)).2 (S_0 28)
  have hq := hP 8 _ rfl
  rw [s0_z (by decide) (by decide)] at ha ⊢
  exact (congrArg (fun z => va_at E.1 vwCl (bb E 28, z) H) ha).mpr hq
theorem tw_29 {E : Ev} {H : Heap} (hP : va_P E.1 vwCl (WLb E) H) : va_at E.1 vwCl (bb E 29, en E 29 (S_0 29)) H := by
  have ha := (a_mk E (j := 3) (by decide)).2 (S_0 29)
  have hq := hP 13 _ rfl
  rw [s0_z (by decide) (by decide)] at ha ⊢
  exact (congrArg (fun z => va_at E.1 vwCl (bb E 29, z) H) ha).mpr hq
theorem tw_30 {E : Ev} {H : Heap} (hP : va_P E.1 vwCl (WLb E) H) : va_at E.1 vwCl (bb E 30, en E 30 (S_0 30)) H := by
  have ha := (a_mk E (j := 4) (by decide)).2 (S_0 30)
  have hq := hP 15 _ rfl
  rw [s0_z (by decide) (by decide)] at ha ⊢
  exact (congrArg (fun z => va_at E.1 vwCl (bb E 30, z) H) ha).mpr hq
theorem tw_31 {E : Ev} {H : Heap} (hP : va_P E.1 vwCl (WLb E) H) : va_at E.1 vwCl (bb E 31, en E 31 (S_0 31)) H := by
  have ha := (a_mk E (j := 5) (by decide)).2 (S_0 31)
  have hq := hP 17 _ rfl
  rw [s0_z (by decide) (by decide)] at ha ⊢
  exact (congrArg (fun z => va_at E.1 vwCl (bb E 31, z) H) ha).mpr hq
theorem tw_32 {E : Ev} {H : Heap} (hP : va_P E.1 vwCl (WLb E) H) : va_at E.1 vwCl (bb E 32, en E 32 (S_0 32)) H := by
  rw [e_32, s0_z (by decide) (by decide)]
  exact hP 32 _ rfl
theorem tw_33 {E : Ev} {H : Heap} (hP : va_P E.1 vwCl (WLb E) H) : va_at E.1 vwCl (bb E 33, en E 33 (S_0 33)) H := by
  have ha := (a_33 E).2 (S_0 33)
  have hq := hP 33 _ rfl
  exact (congrArg (fun z => va_at E.1 vwCl (bb E 33, z) H) ha).mpr hq
theorem tw_34 {E : Ev} {H : Heap} (hP : va_P E.1 vwCl (WLb E) H) : va_at E.1 vwCl (bb E 34, en E 34 (S_0 34)) H := by
  have ha := (a_34 E).2 (S_0 34)
  have hq := hP 34 _ rfl
  rw [s0_z (by decide) (by decide)] at ha ⊢
  exact (congrArg (fun z => va_at E.1 vwCl (bb E 34, z) H) ha).mpr hq
theorem tw_35 {E : Ev} {H : Heap} (hP : va_P E.1 vwCl (WLb E) H) : va_at E.1 vwCl (bb E 35, en E 35 (S_0 35)) H := by
  have ha := (a_35 E).2 (S_0 35)
  have hq := hP 35 _ rfl
  rw [s0_z (by decide) (by decide)] at ha ⊢
  exact (congrArg (fun z => va_at E.1 vwCl (bb E 35, z) H) ha).mpr hq
theorem tw_36 {E : Ev} {H : Heap} (hP : va_P E.1 vwCl (WLb E) H) : va_at E.1 vwCl (bb E 36, en E 36 (S_0 36)) H := by
  have ha := (a_36 E).2 (S_0 36)
  have hq := hP 36 _ rfl
  rw [s0_z (by decide) (by decide)] at ha ⊢
  exact (congrArg (fun z => va_at E.1 vwCl (bb E 36, z) H) ha).mpr hq
theorem tw_37 {E : Ev} {H : Heap} (hP : va_P E.1 vwCl (WLb E) H) : va_at E.1 vwCl (bb E 37, en E 37 (S_0 37)) H := by
  have ha := (a_37 E).2 (S_0 37)
  have hq := hP 37 _ rfl
  rw [s0_z (by decide) (by decide)] at ha ⊢
  exact (congrArg (fun z => va_at E.1 vwCl (bb E 37, z) H) ha).mpr hq
theorem tw_38 {E : Ev} {H : Heap} (hP : va_P E.1 vwCl (WLb E) H) : va_at E.1 vwCl (bb E 38, en E 38 (S_0 38)) H := by
  have ha := (a_38 E).2 (S_0 38)
  have hq := hP 38 _ rfl
  rw [s0_z (by decide) (by decide)] at ha ⊢
  exact (congrArg (fun z => va_at E.1 vwCl (bb E 38, z) H) ha).mpr hq
theorem tw_39 {E : Ev} {H : Heap} (hP : va_P E.1 vwCl (WLb E) H) : va_at E.1 vwCl (bb E 39, en E 39 (S_0 39)) H := by
  have ha := (a_39 E).2 (S_0 39)
  have hq := hP 39 _ rfl
  rw [s0_z (by decide) (by decide)] at ha ⊢
  exact (congrArg (fun z => va_at E.1 vwCl (bb E 39, z) H) ha).mpr hq
theorem tw_40 {E : Ev} {H : Heap} (hP : va_P E.1 vwCl (WLb E) H) : va_at E.1 vwCl (bb E 40, en E 40 (S_0 40)) H := by
  have ha := (a_40 E).2 (S_0 40)
  have hq := hP 40 _ rfl
  rw [s0_z (by decide) (by decide)] at ha ⊢
  exact (congrArg (fun z => va_at E.1 vwCl (bb E 40, z) H) ha).mpr hq
theorem tw_41 {E : Ev} {H : Heap} (hP : va_P E.1 vwCl (WLb E) H) : va_at E.1 vwCl (bb E 41, en E 41 (S_0 41)) H := by
  have ha := (a_41 E).2 (S_0 41)
  have hq := hP 41 _ rfl
  rw [s0_z (by decide) (by decide)] at ha ⊢
  exact (congrArg (fun z => va_at E.1 vwCl (bb E 41, z) H) ha).mpr hq
theorem tw_42 {E : Ev} {H : Heap} (hP : va_P E.1 vwCl (WLb E) H) : va_at E.1 vwCl (bb E 42, en E 42 (S_0 42)) H := by
  have ha := (a_42 E).2 (S_0 42)
  have hq := hP 42 _ rfl
  rw [s0_z (by decide) (by decide)] at ha ⊢
  exact (congrArg (fun z => va_at E.1 vwCl (bb E 42, z) H) ha).mpr hq
theorem tw_43 {E : Ev} {H : Heap} (hP : va_P E.1 vwCl (WLb E) H) : va_at E.1 vwCl (bb E 43, en E 43 (S_0 43)) H := by
  have ha := (a_43 E).2 (S_0 43)
  have hq := hP 43 _ rfl
  rw [s0_z (by decide) (by decide)] at ha ⊢
  exact (congrArg (fun z => va_at E.1 vwCl (bb E 43, z) H) ha).mpr hq
theorem tw_44 {E : Ev} {H : Heap} (hP : va_P E.1 vwCl (WLb E) H) : va_at E.1 vwCl (bb E 44, en E 44 (S_0 44)) H := by
  have ha := (a_44 E).2 (S_0 44)
  have hq := hP 44 _ rfl
  rw [s0_z (by decide) (by decide)] at ha ⊢
  exact (congrArg (fun z => va_at E.1 vwCl (bb E 44, z) H) ha).mpr hq
theorem tw_45 {E : Ev} {H : Heap} (hP : va_P E.1 vwCl (WLb E) H) : va_at E.1 vwCl (bb E 45, en E 45 (S_0 45)) H := by
  have ha := (a_45 E).2 (S_0 45)
  have hq := hP 45 _ rfl
  rw [s0_z (by decide) (by decide)] at ha ⊢
  exact (congrArg (fun z => va_at E.1 vwCl (bb E 45, z) H) ha).mpr hq
theorem tw_46 {E : Ev} {H : Heap} (hP : va_P E.1 vwCl (WLb E) H) : va_at E.1 vwCl (bb E 46, en E 46 (S_0 46)) H := by
  have ha := (a_46 E).2 (S_0 46)
  have hq := hP 46 _ rfl
  rw [s0_z (by decide) (by decide)] at ha ⊢
  exact (congrArg (fun z => va_at E.1 vwCl (bb E 46, z) H) ha).mpr hq
theorem tw_47 {E : Ev} {H : Heap} (hP : va_P E.1 vwCl (WLb E) H) : va_at E.1 vwCl (bb E 47, en E 47 (S_0 47)) H := by
  have ha := (a_47 E).2 (S_0 47)
  have hq := hP 47 _ rfl
  rw [s0_z (by decide) (by decide)] at ha ⊢
  exact (congrArg (fun z => va_at E.1 vwCl (bb E 47, z) H) ha).mpr hq
theorem tw_48 {E : Ev} {H : Heap} (hP : va_P E.1 vwCl (WLb E) H) : va_at E.1 vwCl (bb E 48, en E 48 (S_0 48)) H := by
  have ha := (a_48 E).2 (S_0 48)
  have hq := hP 48 _ rfl
  rw [s0_z (by decide) (by decide)] at ha ⊢
  exact (congrArg (fun z => va_at E.1 vwCl (bb E 48, z) H) ha).mpr hq
theorem tw_49 {E : Ev} {H : Heap} (hP : va_P E.1 vwCl (WLb E) H) : va_at E.1 vwCl (bb E 49, en E 49 (S_0 49)) H := by
  have ha := (a_49 E).2 (S_0 49)
  have hq := hP 49 _ rfl
  rw [s0_z (by decide) (by decide)] at ha ⊢
  exact (congrArg (fun z => va_at E.1 vwCl (bb E 49, z) H) ha).mpr hq
theorem tw_50 {E : Ev} {H : Heap} (hP : va_P E.1 vwCl (WLb E) H) : va_at E.1 vwCl (bb E 50, en E 50 (S_0 50)) H := by
  have ha := (a_50 E).2 (S_0 50)
  have hq := hP 50 _ rfl
  rw [s0_z (by decide) (by decide)] at ha ⊢
  exact (congrArg (fun z => va_at E.1 vwCl (bb E 50, z) H) ha).mpr hq
theorem tw_51 {E : Ev} {H : Heap} (hP : va_P E.1 vwCl (WLb E) H) : va_at E.1 vwCl (bb E 51, en E 51 (S_0 51)) H := by
  have ha := (a_51 E).2 (S_0 51)
  have hq := hP 51 _ rfl
  rw [s0_z (by decide) (by decide)] at ha ⊢
  exact (congrArg (fun z => va_at E.1 vwCl (bb E 51, z) H) ha).mpr hq
theorem tw_52 {E : Ev} {H : Heap} (hP : va_P E.1 vwCl (WLb E) H) : va_at E.1 vwCl (bb E 52, en E 52 (S_0 52)) H := by
  have ha := (a_52 E).2 (S_0 52)
  have hq := hP 52 _ rfl
  rw [s0_z (by decide) (by decide)] at ha ⊢
  exact (congrArg (fun z => va_at E.1 vwCl (bb E 52, z) H) ha).mpr hq
theorem tw_53 {E : Ev} {H : Heap} (hP : va_P E.1 vwCl (WLb E) H) : va_at E.1 vwCl (bb E 53, en E 53 (S_0 53)) H := by
  have ha := (a_53 E).2 (S_0 53)
  have hq := hP 53 _ rfl
  rw [s0_z (by decide) (by decide)] at ha ⊢
  exact (congrArg (fun z => va_at E.1 vwCl (bb E 53, z) H) ha).mpr hq
theorem WLb_at (E : Ev) : ∀ i, i < 54 → ∃ e, (WLb E)[plc i]? = some (bb E i, e) := all54 ⟨_, rfl⟩ ⟨_, rfl⟩ ⟨_, rfl⟩ ⟨_, rfl⟩ ⟨_, rfl⟩ ⟨_, rfl⟩ ⟨_, rfl⟩ ⟨_, rfl⟩ ⟨_, rfl⟩ ⟨_, rfl⟩ ⟨_, rfl⟩ ⟨_, rfl⟩ ⟨_, rfl⟩ ⟨_, rfl⟩ ⟨_, rfl⟩ ⟨_, rfl⟩ ⟨_, rfl⟩ ⟨_, rfl⟩ ⟨_, rfl⟩ ⟨_, rfl⟩ ⟨_, rfl⟩ ⟨_, rfl⟩ ⟨_, rfl⟩ ⟨_, rfl⟩ ⟨_, rfl⟩ ⟨_, rfl⟩ ⟨_, rfl⟩ ⟨_, rfl⟩ ⟨_, rfl⟩ ⟨_, rfl⟩ ⟨_, rfl⟩ ⟨_, rfl⟩ ⟨_, rfl⟩ ⟨_, rfl⟩ ⟨_, rfl⟩ ⟨_, rfl⟩ ⟨_, rfl⟩ ⟨_, rfl⟩ ⟨_, rfl⟩ ⟨_, rfl⟩ ⟨_, rfl⟩ ⟨_, rfl⟩ ⟨_, rfl⟩ ⟨_, rfl⟩ ⟨_, rfl⟩ ⟨_, rfl⟩ ⟨_, rfl⟩ ⟨_, rfl⟩ ⟨_, rfl⟩ ⟨_, rfl⟩ ⟨_, rfl⟩ ⟨_, rfl⟩ ⟨_, rfl⟩ ⟨_, rfl⟩
theorem to_wd {E : Ev} {H : Heap} (hP : va_P E.1 vwCl (WLb E) H) : va_P E.1 vwCl (wd E S_0) H := by
  intro k q hk
  obtain ⟨h54, rfl⟩ := wd_some hk
  clear hk
  revert k
  exact all54 (tw_0 hP) (tw_1 hP) (tw_2 hP) (tw_3 hP) (tw_4 hP) (tw_5 hP) (tw_6 hP) (tw_7 hP) (tw_8 hP) (tw_9 hP) (tw_10 hP) (tw_11 hP) (tw_12 hP) (tw_13 hP) (tw_14 hP) (tw_15 hP) (tw_16 hP) (tw_17 hP) (tw_18 hP) (tw_19 hP) (tw_20 hP) (tw_21 hP) (tw_22 hP) (tw_23 hP) (tw_24 hP) (tw_25 hP) (tw_26 hP) (tw_27 hP) (tw_28 hP) (tw_29 hP) (tw_30 hP) (tw_31 hP) (tw_32 hP) (tw_33 hP) (tw_34 hP) (tw_35 hP) (tw_36 hP) (tw_37 hP) (tw_38 hP) (tw_39 hP) (tw_40 hP) (tw_41 hP) (tw_42 hP) (tw_43 hP) (tw_44 hP) (tw_45 hP) (tw_46 hP) (tw_47 hP) (tw_48 hP) (tw_49 hP) (tw_50 hP) (tw_51 hP) (tw_52 hP) (tw_53 hP)
theorem to_inj {E : Ev} {A : Nat → Prop} (hD : va_D A (WLb E)) : inj E := by
  intro i j hi hj hij
  obtain ⟨e1, h1⟩ := WLb_at E i hi
  obtain ⟨e2, h2⟩ := WLb_at E j hj
  exact plc_inj i hi j hj (hD.1 _ _ _ _ h1 h2 hij)
theorem to_A {E : Ev} {A : Nat → Prop} (hD : va_D A (WLb E)) (k : Nat) (hk : k < 54) : A (bb E k) := by
  obtain ⟨e1, h1⟩ := WLb_at E k hk
  exact hD.2 _ _ h1
