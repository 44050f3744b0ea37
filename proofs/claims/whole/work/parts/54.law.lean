/-! THE LAW: a call, a step; from a new object to the end -/
theorem lg_rf (x : Int64) : lg_cmp x x = (0 : Int32) := (lg_cmp_eq x x).mpr rfl
def Lst (i : Nat) (f : (St → Int32 → Option (Int32 × St)) → Option (Int32 × St)) : Prop := ∀ k, ∃ S' a', f k = k S' (nI (i + 6)) ∧ RC S' a' ∧ RM S' a'
theorem in_s {i L : Nat} (hL : L ≤ 3072) (hi : i + 6 ≤ L) {d : Nat} (hd : d < 6) : inb (nI i + nI d) L = true := by
  rw [n_add]
  exact (inb_i (by omega)).mpr (by omega)
theorem ls_macros {N : Nat} (hN : 23300 ≤ N) (xs : Nat → Int32) {i L : Nat} (hL : L ≤ 3072) (hi : i + 6 ≤ L) {S : St} {a : Ab} (hC : RC S a) (hM : RM S a) : Lst i (fun k => f_L_law_168 N xs L k S (nI i)) := by
  intro k
  have h1 := in_s hL hi (d := 1) (by decide)
  have h2 := in_s hL hi (d := 2) (by decide)
  have h3 := in_s hL hi (d := 3) (by decide)
  have h4 := in_s hL hi (d := 4) (by decide)
  obtain ⟨r, S1, S2, a2, e1, e2, hC2, hM2⟩ := b_macros (N := N) (by omega) (xs (nI i + nI 1).toNatClampNeg) (xs (nI i + nI 2).toNatClampNeg) (xs (nI i + nI 3).toNatClampNeg) (xs (nI i + nI 4).toNatClampNeg) S a hC hM
  dsimp only at e1 e2
  refine ⟨S2, a2, ?_, hC2, hM2⟩
  show f_L_law_168 N xs L k S (nI i) = _
  rw [f_L_law_168, if_pos h1, if_pos h2, if_pos h3, if_pos h4, e1, cal_s, if_pos h1, if_pos h2, if_pos h3, if_pos h4, e2, cal_s, if_pos rfl, bnd_e, n_add]
theorem ls_ofMacro {N : Nat} (hN : 23300 ≤ N) (xs : Nat → Int32) {i L : Nat} (hL : L ≤ 3072) (hi : i + 6 ≤ L) {S : St} {a : Ab} (hC : RC S a) (hM : RM S a) : Lst i (fun k => f_L_law_221 N xs L k S (nI i)) := by
  intro k
  have h1 := in_s hL hi (d := 1) (by decide)
  have h2 := in_s hL hi (d := 2) (by decide)
  obtain ⟨r, S1, S2, a2, e1, e2, hC2, hM2⟩ := b_ofMacro (N := N) (by omega) (xs (nI i + nI 1).toNatClampNeg) (xs (nI i + nI 2).toNatClampNeg) S a hC hM
  dsimp only at e1 e2
  refine ⟨S2, a2, ?_, hC2, hM2⟩
  show f_L_law_221 N xs L k S (nI i) = _
  rw [f_L_law_221, if_pos h1, if_pos h2, e1, cal_s, if_pos h1, if_pos h2, e2, cal_s, if_pos rfl, bnd_e, n_add]
theorem ls_key {N : Nat} (hN : 23300 ≤ N) (xs : Nat → Int32) {i L : Nat} (hL : L ≤ 3072) (hi : i + 6 ≤ L) {S : St} {a : Ab} (hC : RC S a) (hM : RM S a) : Lst i (fun k => f_L_law_254 N xs L k S (nI i)) := by
  intro k
  have h1 := in_s hL hi (d := 1) (by decide)
  have h2 := in_s hL hi (d := 2) (by decide)
  obtain ⟨r, S1, S2, a2, e1, e2, hC2, hM2⟩ := b_key N (xs (nI i + nI 1).toNatClampNeg) (xs (nI i + nI 2).toNatClampNeg) S a hC hM
  dsimp only at e1 e2
  refine ⟨S2, a2, ?_, hC2, hM2⟩
  show f_L_law_254 N xs L k S (nI i) = _
  rw [f_L_law_254, if_pos h1, if_pos h2, e1, cal_s, if_pos h1, if_pos h2, e2, cal_s, if_pos rfl, bnd_e, n_add]
theorem ls_times {N : Nat} (hN : 23300 ≤ N) (xs : Nat → Int32) {i L : Nat} (hL : L ≤ 3072) (hi : i + 6 ≤ L) {S : St} {a : Ab} (hC : RC S a) (hM : RM S a) : Lst i (fun k => f_L_law_287 N xs L k S (nI i)) := by
  intro k
  have h1 := in_s hL hi (d := 1) (by decide)
  have h2 := in_s hL hi (d := 2) (by decide)
  obtain ⟨r, S1, S2, a2, e1, e2, hC2, hM2⟩ := b_times (N := N) (by omega) (xs (nI i + nI 1).toNatClampNeg) (xs (nI i + nI 2).toNatClampNeg) S a hC hM
  dsimp only at e1 e2
  refine ⟨S2, a2, ?_, hC2, hM2⟩
  show f_L_law_287 N xs L k S (nI i) = _
  rw [f_L_law_287, if_pos h1, if_pos h2, e1, cal_s, if_pos h1, if_pos h2, e2, cal_s, if_pos rfl, bnd_e, n_add]
theorem ls_press {N : Nat} (hN : 23300 ≤ N) (xs : Nat → Int32) {i L : Nat} (hL : L ≤ 3072) (hi : i + 6 ≤ L) {S : St} {a : Ab} (hC : RC S a) (hM : RM S a) : Lst i (fun k => f_L_law_320 N xs L k S (nI i)) := by
  intro k
  have h1 := in_s hL hi (d := 1) (by decide)
  obtain ⟨r, S1, S2, a2, e1, e2, hC2, hM2⟩ := b_press (N := N) (by omega) (xs (nI i + nI 1).toNatClampNeg) S a hC hM
  dsimp only at e1 e2
  refine ⟨S2, a2, ?_, hC2, hM2⟩
  show f_L_law_320 N xs L k S (nI i) = _
  rw [f_L_law_320, if_pos h1, e1, cal_s, if_pos h1, e2, cal_s, if_pos rfl, bnd_e, n_add]
theorem ls_play {N : Nat} (hN : 23300 ≤ N) (xs : Nat → Int32) {i L : Nat} (hL : L ≤ 3072) (hi : i + 6 ≤ L) {S : St} {a : Ab} (hC : RC S a) (hM : RM S a) : Lst i (fun k => f_L_law_343 N xs L k S (nI i)) := by
  intro k
  have h1 := in_s hL hi (d := 1) (by decide)
  obtain ⟨r, S1, S2, a2, e1, e2, hC2, hM2⟩ := b_play (N := N) (by omega) (xs (nI i + nI 1).toNatClampNeg) S a hC hM
  dsimp only at e1 e2
  refine ⟨S2, a2, ?_, hC2, hM2⟩
  show f_L_law_343 N xs L k S (nI i) = _
  rw [f_L_law_343, if_pos h1, e1, cal_s, if_pos h1, e2, cal_s, if_pos rfl, bnd_e, n_add]
theorem ls_letter {N : Nat} (hN : 23300 ≤ N) (xs : Nat → Int32) {i L : Nat} (hL : L ≤ 3072) (hi : i + 6 ≤ L) {S : St} {a : Ab} (hC : RC S a) (hM : RM S a) : Lst i (fun k => f_L_law_366 N xs L k S (nI i)) := by
  intro k
  have h1 := in_s hL hi (d := 1) (by decide)
  obtain ⟨r, S1, S2, a2, e1, e2, hC2, hM2⟩ := b_letter (N := N) (by omega) (xs (nI i + nI 1).toNatClampNeg) S a hC hM
  dsimp only at e1 e2
  refine ⟨S2, a2, ?_, hC2, hM2⟩
  show f_L_law_366 N xs L k S (nI i) = _
  rw [f_L_law_366, if_pos h1, e1, cal_s, if_pos h1, e2, cal_s, if_pos rfl, bnd_e, n_add]
theorem ls_clear {N : Nat} (hN : 23300 ≤ N) (xs : Nat → Int32) {i L : Nat} (hL : L ≤ 3072) (hi : i + 6 ≤ L) {S : St} {a : Ab} (hC : RC S a) (hM : RM S a) : Lst i (fun k => f_L_law_389 N xs L k S (nI i)) := by
  intro k
  obtain ⟨r, S1, S2, a2, e1, e2, hC2, hM2⟩ := b_clear (N := N) (by omega)  S a hC hM
  dsimp only at e1 e2
  refine ⟨S2, a2, ?_, hC2, hM2⟩
  show f_L_law_389 N xs L k S (nI i) = _
  rw [f_L_law_389, e1, cal_s, e2, cal_s, if_pos rfl, bnd_e, n_add]
theorem ls_row {N : Nat} (hN : 23300 ≤ N) (xs : Nat → Int32) {i L : Nat} (hL : L ≤ 3072) (hi : i + 6 ≤ L) {S : St} {a : Ab} (hC : RC S a) (hM : RM S a) : Lst i (fun k => f_L_law_402 N xs L k S (nI i)) := by
  intro k
  have h1 := in_s hL hi (d := 1) (by decide)
  have h2 := in_s hL hi (d := 2) (by decide)
  have h3 := in_s hL hi (d := 3) (by decide)
  have h4 := in_s hL hi (d := 4) (by decide)
  have h5 := in_s hL hi (d := 5) (by decide)
  obtain ⟨r, S1, S2, a2, e1, e2, hC2, hM2⟩ := b_row (N := N) (by omega) (xs (nI i + nI 1).toNatClampNeg) (xs (nI i + nI 2).toNatClampNeg) (xs (nI i + nI 3).toNatClampNeg) (xs (nI i + nI 4).toNatClampNeg) (xs (nI i + nI 5).toNatClampNeg) S a hC hM
  dsimp only at e1 e2
  refine ⟨S2, a2, ?_, hC2, hM2⟩
  show f_L_law_402 N xs L k S (nI i) = _
  rw [f_L_law_402, if_pos h1, if_pos h2, if_pos h3, if_pos h4, if_pos h5, e1, cal_s, if_pos h1, if_pos h2, if_pos h3, if_pos h4, if_pos h5, e2, cal_s, if_pos rfl, bnd_e, n_add]
theorem ls_fewest {N : Nat} (hN : 23300 ≤ N) (xs : Nat → Int32) {i L : Nat} (hL : L ≤ 3072) (hi : i + 6 ≤ L) {S : St} {a : Ab} (hC : RC S a) (hM : RM S a) : Lst i (fun k => f_L_law_465 N xs L k S (nI i)) := by
  intro k
  have h1 := in_s hL hi (d := 1) (by decide)
  have h2 := in_s hL hi (d := 2) (by decide)
  have h3 := in_s hL hi (d := 3) (by decide)
  have h4 := in_s hL hi (d := 4) (by decide)
  have h5 := in_s hL hi (d := 5) (by decide)
  obtain ⟨r, S1, S2, a2, e1, e2, hC2, hM2⟩ := b_fewest (N := N) (by omega) (xs (nI i + nI 1).toNatClampNeg) (xs (nI i + nI 2).toNatClampNeg) (xs (nI i + nI 3).toNatClampNeg) (xs (nI i + nI 4).toNatClampNeg) (xs (nI i + nI 5).toNatClampNeg) S a hC hM
  dsimp only at e1 e2
  refine ⟨S2, a2, ?_, hC2, hM2⟩
  show f_L_law_465 N xs L k S (nI i) = _
  rw [f_L_law_465, if_pos h1, if_pos h2, if_pos h3, if_pos h4, if_pos h5, e1, cal_s, if_pos h1, if_pos h2, if_pos h3, if_pos h4, if_pos h5, e2, cal_s, if_pos rfl, bnd_e, n_add]
theorem ls_again {N : Nat} (hN : 23300 ≤ N) (xs : Nat → Int32) {i L : Nat} (hL : L ≤ 3072) (hi : i + 6 ≤ L) {S : St} {a : Ab} (hC : RC S a) (hM : RM S a) : Lst i (fun k => f_L_law_528 N xs L k S (nI i)) := by
  intro k
  have h1 := in_s hL hi (d := 1) (by decide)
  have h2 := in_s hL hi (d := 2) (by decide)
  obtain ⟨r, S1, S2, a2, e1, e2, hC2, hM2⟩ := b_again (N := N) (by omega) (xs (nI i + nI 1).toNatClampNeg) (xs (nI i + nI 2).toNatClampNeg) S a hC hM
  dsimp only at e1 e2
  refine ⟨S2, a2, ?_, hC2, hM2⟩
  show f_L_law_528 N xs L k S (nI i) = _
  rw [f_L_law_528, if_pos h1, if_pos h2, e1, cal_s, if_pos h1, if_pos h2, e2, cal_s, if_pos rfl, bnd_e, n_add]
theorem ls_like {N : Nat} (hN : 23300 ≤ N) (xs : Nat → Int32) {i L : Nat} (hL : L ≤ 3072) (hi : i + 6 ≤ L) {S : St} {a : Ab} (hC : RC S a) (hM : RM S a) : Lst i (fun k => f_L_law_561 N xs L k S (nI i)) := by
  intro k
  have h1 := in_s hL hi (d := 1) (by decide)
  have h2 := in_s hL hi (d := 2) (by decide)
  obtain ⟨r, S1, S2, a2, e1, e2, hC2, hM2⟩ := b_like (N := N) (by omega) (xs (nI i + nI 1).toNatClampNeg) (xs (nI i + nI 2).toNatClampNeg) S a hC hM
  dsimp only at e1 e2
  refine ⟨S2, a2, ?_, hC2, hM2⟩
  show f_L_law_561 N xs L k S (nI i) = _
  rw [f_L_law_561, if_pos h1, if_pos h2, e1, cal_s, if_pos h1, if_pos h2, e2, cal_s, if_pos rfl, bnd_e, n_add]
theorem ls_still {N : Nat} (hN : 23300 ≤ N) (xs : Nat → Int32) {i L : Nat} (hL : L ≤ 3072) (hi : i + 6 ≤ L) {S : St} {a : Ab} (hC : RC S a) (hM : RM S a) : Lst i (fun k => f_L_law_594 N xs L k S (nI i)) := by
  intro k
  have h1 := in_s hL hi (d := 1) (by decide)
  obtain ⟨r, S1, S2, a2, e1, e2, hC2, hM2⟩ := b_still (N := N) (by omega) (xs (nI i + nI 1).toNatClampNeg) S a hC hM
  dsimp only at e1 e2
  refine ⟨S2, a2, ?_, hC2, hM2⟩
  show f_L_law_594 N xs L k S (nI i) = _
  rw [f_L_law_594, if_pos h1, e1, cal_s, if_pos h1, e2, cal_s, if_pos rfl, bnd_e, n_add]
theorem ls_come {N : Nat} (hN : 23300 ≤ N) (xs : Nat → Int32) {i L : Nat} (hL : L ≤ 3072) (hi : i + 6 ≤ L) {S : St} {a : Ab} (hC : RC S a) (hM : RM S a) : Lst i (fun k => f_L_law_617 N xs L k S (nI i)) := by
  intro k
  obtain ⟨r, S1, S2, a2, e1, e2, hC2, hM2⟩ := b_come (N := N) (by omega)  S a hC hM
  dsimp only at e1 e2
  refine ⟨S2, a2, ?_, hC2, hM2⟩
  show f_L_law_617 N xs L k S (nI i) = _
  rw [f_L_law_617, e1, cal_s, e2, cal_s, if_pos rfl, bnd_e, n_add]
theorem ls_reading {N : Nat} (hN : 23300 ≤ N) (xs : Nat → Int32) {i L : Nat} (hL : L ≤ 3072) (hi : i + 6 ≤ L) {S : St} {a : Ab} (hC : RC S a) (hM : RM S a) : Lst i (fun k => f_L_law_630 N xs L k S (nI i)) := by
  intro k
  have h1 := in_s hL hi (d := 1) (by decide)
  have h2 := in_s hL hi (d := 2) (by decide)
  obtain ⟨r, S1, S2, a2, e1, e2, hC2, hM2⟩ := b_reading N (xs (nI i + nI 1).toNatClampNeg) (xs (nI i + nI 2).toNatClampNeg) S a hC hM
  dsimp only at e1 e2
  refine ⟨S2, a2, ?_, hC2, hM2⟩
  show f_L_law_630 N xs L k S (nI i) = _
  rw [f_L_law_630, if_pos h1, if_pos h2, e1, cal_s, if_pos h1, if_pos h2, e2, cal_s, if_pos rfl, bnd_e, n_add]
theorem ls_back {N : Nat} (hN : 23300 ≤ N) (xs : Nat → Int32) {i L : Nat} (hL : L ≤ 3072) (hi : i + 6 ≤ L) {S : St} {a : Ab} (hC : RC S a) (hM : RM S a) : Lst i (fun k => f_L_law_663 N xs L k S (nI i)) := by
  intro k
  have h1 := in_s hL hi (d := 1) (by decide)
  obtain ⟨r, S1, S2, a2, e1, e2, hC2, hM2⟩ := b_back N (xs (nI i + nI 1).toNatClampNeg) S a hC hM
  dsimp only at e1 e2
  refine ⟨S2, a2, ?_, hC2, hM2⟩
  show f_L_law_663 N xs L k S (nI i) = _
  rw [f_L_law_663, if_pos h1, e1, cal_s, if_pos h1, e2, cal_s, if_pos rfl, bnd_e, n_add]
theorem ls_timings {N : Nat} (hN : 23300 ≤ N) (xs : Nat → Int32) {i L : Nat} (hL : L ≤ 3072) (hi : i + 6 ≤ L) {S : St} {a : Ab} (hC : RC S a) (hM : RM S a) : Lst i (fun k => f_L_law_686 N xs L k S (nI i)) := by
  intro k
  have h1 := in_s hL hi (d := 1) (by decide)
  obtain ⟨r, S1, S2, a2, e1, e2, hC2, hM2⟩ := b_timings (N := N) (by omega) (xs (nI i + nI 1).toNatClampNeg) S a hC hM
  dsimp only at e1 e2
  refine ⟨S2, a2, ?_, hC2, hM2⟩
  show f_L_law_686 N xs L k S (nI i) = _
  rw [f_L_law_686, if_pos h1, e1, cal_s, if_pos h1, e2, cal_s, if_pos rfl, bnd_e, n_add]
theorem ls_kinds {N : Nat} (hN : 23300 ≤ N) (xs : Nat → Int32) {i L : Nat} (hL : L ≤ 3072) (hi : i + 6 ≤ L) {S : St} {a : Ab} (hC : RC S a) (hM : RM S a) : Lst i (fun k => f_L_law_709 N xs L k S (nI i)) := by
  intro k
  have h1 := in_s hL hi (d := 1) (by decide)
  obtain ⟨r, S1, S2, a2, e1, e2, hC2, hM2⟩ := b_kinds (N := N) (by omega) (xs (nI i + nI 1).toNatClampNeg) S a hC hM
  dsimp only at e1 e2
  refine ⟨S2, a2, ?_, hC2, hM2⟩
  show f_L_law_709 N xs L k S (nI i) = _
  rw [f_L_law_709, if_pos h1, e1, cal_s, if_pos h1, e2, cal_s, if_pos rfl, bnd_e, n_add]
theorem ls_odds {N : Nat} (hN : 23300 ≤ N) (xs : Nat → Int32) {i L : Nat} (hL : L ≤ 3072) (hi : i + 6 ≤ L) {S : St} {a : Ab} (hC : RC S a) (hM : RM S a) : Lst i (fun k => f_L_law_732 N xs L k S (nI i)) := by
  intro k
  have h1 := in_s hL hi (d := 1) (by decide)
  have h2 := in_s hL hi (d := 2) (by decide)
  obtain ⟨r, S1, S2, a2, e1, e2, hC2, hM2⟩ := b_odds (N := N) (by omega) (xs (nI i + nI 1).toNatClampNeg) (xs (nI i + nI 2).toNatClampNeg) S a hC hM
  dsimp only at e1 e2
  refine ⟨S2, a2, ?_, hC2, hM2⟩
  show f_L_law_732 N xs L k S (nI i) = _
  rw [f_L_law_732, if_pos h1, if_pos h2, e1, cal_s, if_pos h1, if_pos h2, e2, cal_s, if_pos (lg_rf r), bnd_e, n_add]
theorem ls_sheet {N : Nat} (hN : 23300 ≤ N) (xs : Nat → Int32) {i L : Nat} (hL : L ≤ 3072) (hi : i + 6 ≤ L) {S : St} {a : Ab} (hC : RC S a) (hM : RM S a) : Lst i (fun k => f_L_law_766 N xs L k S (nI i)) := by
  intro k
  have h1 := in_s hL hi (d := 1) (by decide)
  have h2 := in_s hL hi (d := 2) (by decide)
  have h3 := in_s hL hi (d := 3) (by decide)
  obtain ⟨r, S1, S2, a2, e1, e2, hC2, hM2⟩ := b_sheet (N := N) (by omega) (xs (nI i + nI 1).toNatClampNeg) (xs (nI i + nI 2).toNatClampNeg) (xs (nI i + nI 3).toNatClampNeg) S a hC hM
  dsimp only at e1 e2
  refine ⟨S2, a2, ?_, hC2, hM2⟩
  show f_L_law_766 N xs L k S (nI i) = _
  rw [f_L_law_766, if_pos h1, if_pos h2, if_pos h3, e1, cal_s, if_pos h1, if_pos h2, if_pos h3, e2, cal_s, if_pos rfl, bnd_e, n_add]
theorem ls_lose {N : Nat} (hN : 23300 ≤ N) (xs : Nat → Int32) {i L : Nat} (hL : L ≤ 3072) (hi : i + 6 ≤ L) {S : St} {a : Ab} (hC : RC S a) (hM : RM S a) : Lst i (fun k => f_L_law_809 N xs L k S (nI i)) := by
  intro k
  have h1 := in_s hL hi (d := 1) (by decide)
  obtain ⟨r, S1, S2, a2, e1, e2, hC2, hM2⟩ := b_lose (N := N) (by omega) (xs (nI i + nI 1).toNatClampNeg) S a hC hM
  dsimp only at e1 e2
  refine ⟨S2, a2, ?_, hC2, hM2⟩
  show f_L_law_809 N xs L k S (nI i) = _
  rw [f_L_law_809, if_pos h1, e1, cal_s, if_pos h1, e2, cal_s, if_pos rfl, bnd_e, n_add]
theorem ls_put {N : Nat} (hN : 23300 ≤ N) (xs : Nat → Int32) {i L : Nat} (hL : L ≤ 3072) (hi : i + 6 ≤ L) {S : St} {a : Ab} (hC : RC S a) (hM : RM S a) : Lst i (fun k => f_L_law_832 N xs L k S (nI i)) := by
  intro k
  have h1 := in_s hL hi (d := 1) (by decide)
  have h2 := in_s hL hi (d := 2) (by decide)
  have h3 := in_s hL hi (d := 3) (by decide)
  obtain ⟨r, S1, S2, a2, e1, e2, hC2, hM2⟩ := b_put N (xs (nI i + nI 1).toNatClampNeg) (xs (nI i + nI 2).toNatClampNeg) (xs (nI i + nI 3).toNatClampNeg) S a hC hM
  dsimp only at e1 e2
  refine ⟨S2, a2, ?_, hC2, hM2⟩
  show f_L_law_832 N xs L k S (nI i) = _
  rw [f_L_law_832, if_pos h1, if_pos h2, if_pos h3, e1, cal_s, if_pos h1, if_pos h2, if_pos h3, e2, cal_s, if_pos rfl, bnd_e, n_add]
theorem ls_cell {N : Nat} (hN : 23300 ≤ N) (xs : Nat → Int32) {i L : Nat} (hL : L ≤ 3072) (hi : i + 6 ≤ L) {S : St} {a : Ab} (hC : RC S a) (hM : RM S a) : Lst i (fun k => f_L_law_875 N xs L k S (nI i)) := by
  intro k
  have h1 := in_s hL hi (d := 1) (by decide)
  have h2 := in_s hL hi (d := 2) (by decide)
  have h3 := in_s hL hi (d := 3) (by decide)
  obtain ⟨r, S1, S2, a2, e1, e2, hC2, hM2⟩ := b_cell N (xs (nI i + nI 1).toNatClampNeg) (xs (nI i + nI 2).toNatClampNeg) (xs (nI i + nI 3).toNatClampNeg) S a hC hM
  dsimp only at e1 e2
  refine ⟨S2, a2, ?_, hC2, hM2⟩
  show f_L_law_875 N xs L k S (nI i) = _
  rw [f_L_law_875, if_pos h1, if_pos h2, if_pos h3, e1, cal_s, if_pos h1, if_pos h2, if_pos h3, e2, cal_s, if_pos (lg_rf r), bnd_e, n_add]
theorem ls_copy {N : Nat} (hN : 23300 ≤ N) (xs : Nat → Int32) {i L : Nat} (hL : L ≤ 3072) (hi : i + 6 ≤ L) {S : St} {a : Ab} (hC : RC S a) (hM : RM S a) : Lst i (fun k => f_L_law_919 N xs L k S (nI i)) := by
  intro k
  have h1 := in_s hL hi (d := 1) (by decide)
  have h2 := in_s hL hi (d := 2) (by decide)
  have h3 := in_s hL hi (d := 3) (by decide)
  have h4 := in_s hL hi (d := 4) (by decide)
  have h5 := in_s hL hi (d := 5) (by decide)
  obtain ⟨r, S1, S2, a2, e1, e2, hC2, hM2⟩ := b_copy (N := N) (by omega) (xs (nI i + nI 1).toNatClampNeg) (xs (nI i + nI 2).toNatClampNeg) (xs (nI i + nI 3).toNatClampNeg) (xs (nI i + nI 4).toNatClampNeg) (xs (nI i + nI 5).toNatClampNeg) S a hC hM
  dsimp only at e1 e2
  refine ⟨S2, a2, ?_, hC2, hM2⟩
  show f_L_law_919 N xs L k S (nI i) = _
  rw [f_L_law_919, if_pos h1, if_pos h2, if_pos h3, if_pos h4, if_pos h5, e1, cal_s, if_pos h1, if_pos h2, if_pos h3, if_pos h4, if_pos h5, e2, cal_s, if_pos rfl, bnd_e, n_add]
theorem ls_tell {N : Nat} (hN : 23300 ≤ N) (xs : Nat → Int32) {i L : Nat} (hL : L ≤ 3072) (hi : i + 6 ≤ L) {S : St} {a : Ab} (hC : RC S a) (hM : RM S a) : Lst i (fun k => f_L_law_982 N xs L k S (nI i)) := by
  intro k
  have h1 := in_s hL hi (d := 1) (by decide)
  obtain ⟨r, S1, S2, a2, e1, e2, hC2, hM2⟩ := b_tell N (xs (nI i + nI 1).toNatClampNeg) S a hC hM
  dsimp only at e1 e2
  refine ⟨S2, a2, ?_, hC2, hM2⟩
  show f_L_law_982 N xs L k S (nI i) = _
  rw [f_L_law_982, if_pos h1, e1, cal_s, if_pos h1, e2, cal_s, if_pos rfl, bnd_e, n_add]
theorem ls_click {N : Nat} (hN : 23300 ≤ N) (xs : Nat → Int32) {i L : Nat} (hL : L ≤ 3072) (hi : i + 6 ≤ L) {S : St} {a : Ab} (hC : RC S a) (hM : RM S a) : Lst i (fun k => f_L_law_1005 N xs L k S (nI i)) := by
  intro k
  have h1 := in_s hL hi (d := 1) (by decide)
  obtain ⟨r, S1, S2, a2, e1, e2, hC2, hM2⟩ := b_click N (xs (nI i + nI 1).toNatClampNeg) S a hC hM
  dsimp only at e1 e2
  refine ⟨S2, a2, ?_, hC2, hM2⟩
  show f_L_law_1005 N xs L k S (nI i) = _
  rw [f_L_law_1005, if_pos h1, e1, cal_s, if_pos h1, e2, cal_s, if_pos rfl, bnd_e, n_add]
theorem ls_as {N : Nat} (hN : 23300 ≤ N) (xs : Nat → Int32) {i L : Nat} (hL : L ≤ 3072) (hi : i + 6 ≤ L) {S : St} {a : Ab} (hC : RC S a) (hM : RM S a) : Lst i (fun k => f_L_law_1028 N xs L k S (nI i)) := by
  intro k
  have h1 := in_s hL hi (d := 1) (by decide)
  have h2 := in_s hL hi (d := 2) (by decide)
  obtain ⟨r, S1, S2, a2, e1, e2, hC2, hM2⟩ := b_as N (xs (nI i + nI 1).toNatClampNeg) (xs (nI i + nI 2).toNatClampNeg) S a hC hM
  dsimp only at e1 e2
  refine ⟨S2, a2, ?_, hC2, hM2⟩
  show f_L_law_1028 N xs L k S (nI i) = _
  rw [f_L_law_1028, if_pos h1, if_pos h2, e1, cal_s, if_pos h1, if_pos h2, e2, cal_s, if_pos rfl, bnd_e, n_add]
theorem ls_trace {N : Nat} (hN : 23300 ≤ N) (xs : Nat → Int32) {i L : Nat} (hL : L ≤ 3072) (hi : i + 6 ≤ L) {S : St} {a : Ab} (hC : RC S a) (hM : RM S a) : Lst i (fun k => f_L_law_1061 N xs L k S (nI i)) := by
  intro k
  obtain ⟨r, S1, S2, a2, e1, e2, hC2, hM2⟩ := b_trace N  S a hC hM
  dsimp only at e1 e2
  refine ⟨S2, a2, ?_, hC2, hM2⟩
  show f_L_law_1061 N xs L k S (nI i) = _
  rw [f_L_law_1061, e1, cal_s, e2, cal_s, if_pos rfl, bnd_e, n_add]
theorem ls_fault {N : Nat} (hN : 23300 ≤ N) (xs : Nat → Int32) {i L : Nat} (hL : L ≤ 3072) (hi : i + 6 ≤ L) {S : St} {a : Ab} (hC : RC S a) (hM : RM S a) : Lst i (fun k => f_L_law_1074 N xs L k S (nI i)) := by
  intro k
  obtain ⟨r, S1, S2, a2, e1, e2, hC2, hM2⟩ := b_fault N  S a hC hM
  dsimp only at e1 e2
  refine ⟨S2, a2, ?_, hC2, hM2⟩
  show f_L_law_1074 N xs L k S (nI i) = _
  rw [f_L_law_1074, e1, cal_s, e2, cal_s, if_pos rfl, bnd_e, n_add]
theorem ls_many {N : Nat} (hN : 23300 ≤ N) (xs : Nat → Int32) {i L : Nat} (hL : L ≤ 3072) (hi : i + 6 ≤ L) {S : St} {a : Ab} (hC : RC S a) (hM : RM S a) : Lst i (fun k => f_L_law_1087 N xs L k S (nI i)) := by
  intro k
  have h1 := in_s hL hi (d := 1) (by decide)
  obtain ⟨r, S1, S2, a2, e1, e2, hC2, hM2⟩ := b_many (N := N) (by omega) (xs (nI i + nI 1).toNatClampNeg) S a hC hM
  dsimp only at e1 e2
  refine ⟨S2, a2, ?_, hC2, hM2⟩
  show f_L_law_1087 N xs L k S (nI i) = _
  rw [f_L_law_1087, if_pos h1, e1, cal_s, if_pos h1, e2, cal_s, if_pos rfl, bnd_e, n_add]
theorem lt_6 {L i : Nat} (hL : L ≤ 3072) (hi : i ≤ 4000) : (Int32.ofNat L - nI 6 < nI i) = (L < i + 6) := by
  apply propext
  rcases Nat.lt_or_ge L 6 with h | h
  · refine ⟨fun _ => by omega, fun _ => ?_⟩
    have h0 : ∀ q, q < 6 → (Int32.ofNat q - nI 6) < 0 := by decide
    have h1 := Int32.lt_iff_toInt_lt.mp (h0 L h)
    refine Int32.lt_iff_toInt_lt.mpr ?_
    rw [nI_toInt (by omega)]
    have e0 : (0 : Int32).toInt = 0 := rfl
    omega
  · have h1 : Int32.ofNat L - nI 6 = nI (L - 6) := n_sub h
    rw [h1, n_lt (by omega) (by omega)]
    omega
theorem law_go {N : Nat} (hN : 23300 ≤ N) (xs : Nat → Int32) {L : Nat} (hL : L ≤ 3072) : ∀ (n i : Nat) (S : St) (a : Ab), L < i + n → i ≤ 3078 → RC S a → RM S a → ∃ S1, f_L_law_18 N xs L (n + 1) S (nI i) = some ((1 : Int32), S1) := by
  intro n
  induction n with
  | zero =>
    intro i S a h1 h2 hC hM
    refine ⟨S, ?_⟩
    rw [f_L_law_18, if_pos (by rw [lt_6 hL (by omega)]; omega)]
    rfl
  | succ n ih =>
    intro i S a h1 h2 hC hM
    rw [f_L_law_18]
    by_cases h : L < i + 6
    · refine ⟨S, ?_⟩
      rw [if_pos (by rw [lt_6 hL (by omega)]; exact h)]
      rfl
    have hi : i + 6 ≤ L := by omega
    rw [if_neg (by rw [lt_6 hL (by omega)]; exact h), if_pos ((inb_i (by omega)).mpr (by omega)), bnd_e]
    have key : ∀ S' a', RC S' a' → RM S' a' → ∃ S1, f_L_law_18 N xs L (n + 1) S' (nI (i + 6)) = some ((1 : Int32), S1) := fun S' a' => ih (i + 6) S' a' (by omega) (by omega)
    generalize f_L_law_18 N xs L (n + 1) = kk at key ⊢
    generalize xs (nI i).toNatClampNeg &&& nI 31 = y
    by_cases c0 : y = nI 0
    · rw [if_pos c0]
      obtain ⟨S', a', e, c, m⟩ := ls_macros hN xs hL hi hC hM kk
      dsimp only at e
      rw [e]
      exact key S' a' c m
    rw [if_neg c0]
    by_cases c1 : y = nI 1
    · rw [if_pos c1]
      obtain ⟨S', a', e, c, m⟩ := ls_ofMacro hN xs hL hi hC hM kk
      dsimp only at e
      rw [e]
      exact key S' a' c m
    rw [if_neg c1]
    by_cases c2 : y = nI 2
    · rw [if_pos c2]
      obtain ⟨S', a', e, c, m⟩ := ls_key hN xs hL hi hC hM kk
      dsimp only at e
      rw [e]
      exact key S' a' c m
    rw [if_neg c2]
    by_cases c3 : y = nI 3
    · rw [if_pos c3]
      obtain ⟨S', a', e, c, m⟩ := ls_times hN xs hL hi hC hM kk
      dsimp only at e
      rw [e]
      exact key S' a' c m
    rw [if_neg c3]
    by_cases c4 : y = nI 4
    · rw [if_pos c4]
      obtain ⟨S', a', e, c, m⟩ := ls_press hN xs hL hi hC hM kk
      dsimp only at e
      rw [e]
      exact key S' a' c m
    rw [if_neg c4]
    by_cases c5 : y = nI 5
    · rw [if_pos c5]
      obtain ⟨S', a', e, c, m⟩ := ls_play hN xs hL hi hC hM kk
      dsimp only at e
      rw [e]
      exact key S' a' c m
    rw [if_neg c5]
    by_cases c6 : y = nI 6
    · rw [if_pos c6]
      obtain ⟨S', a', e, c, m⟩ := ls_letter hN xs hL hi hC hM kk
      dsimp only at e
      rw [e]
      exact key S' a' c m
    rw [if_neg c6]
    by_cases c7 : y = nI 7
    · rw [if_pos c7]
      obtain ⟨S', a', e, c, m⟩ := ls_clear hN xs hL hi hC hM kk
      dsimp only at e
      rw [e]
      exact key S' a' c m
    rw [if_neg c7]
    by_cases c8 : y = nI 8
    · rw [if_pos c8]
      obtain ⟨S', a', e, c, m⟩ := ls_row hN xs hL hi hC hM kk
      dsimp only at e
      rw [e]
      exact key S' a' c m
    rw [if_neg c8]
    by_cases c9 : y = nI 9
    · rw [if_pos c9]
      obtain ⟨S', a', e, c, m⟩ := ls_fewest hN xs hL hi hC hM kk
      dsimp only at e
      rw [e]
      exact key S' a' c m
    rw [if_neg c9]
    by_cases c10 : y = nI 10
    · rw [if_pos c10]
      obtain ⟨S', a', e, c, m⟩ := ls_again hN xs hL hi hC hM kk
      dsimp only at e
      rw [e]
      exact key S' a' c m
    rw [if_neg c10]
    by_cases c11 : y = nI 11
    · rw [if_pos c11]
      obtain ⟨S', a', e, c, m⟩ := ls_like hN xs hL hi hC hM kk
      dsimp only at e
      rw [e]
      exact key S' a' c m
    rw [if_neg c11]
    by_cases c12 : y = nI 12
    · rw [if_pos c12]
      obtain ⟨S', a', e, c, m⟩ := ls_still hN xs hL hi hC hM kk
      dsimp only at e
      rw [e]
      exact key S' a' c m
    rw [if_neg c12]
    by_cases c13 : y = nI 13
    · rw [if_pos c13]
      obtain ⟨S', a', e, c, m⟩ := ls_come hN xs hL hi hC hM kk
      dsimp only at e
      rw [e]
      exact key S' a' c m
    rw [if_neg c13]
    by_cases c14 : y = nI 14
    · rw [if_pos c14]
      obtain ⟨S', a', e, c, m⟩ := ls_reading hN xs hL hi hC hM kk
      dsimp only at e
      rw [e]
      exact key S' a' c m
    rw [if_neg c14]
    by_cases c15 : y = nI 15
    · rw [if_pos c15]
      obtain ⟨S', a', e, c, m⟩ := ls_back hN xs hL hi hC hM kk
      dsimp only at e
      rw [e]
      exact key S' a' c m
    rw [if_neg c15]
    by_cases c16 : y = nI 16
    · rw [if_pos c16]
      obtain ⟨S', a', e, c, m⟩ := ls_timings hN xs hL hi hC hM kk
      dsimp only at e
      rw [e]
      exact key S' a' c m
    rw [if_neg c16]
    by_cases c17 : y = nI 17
    · rw [if_pos c17]
      obtain ⟨S', a', e, c, m⟩ := ls_kinds hN xs hL hi hC hM kk
      dsimp only at e
      rw [e]
      exact key S' a' c m
    rw [if_neg c17]
    by_cases c18 : y = nI 18
    · rw [if_pos c18]
      obtain ⟨S', a', e, c, m⟩ := ls_odds hN xs hL hi hC hM kk
      dsimp only at e
      rw [e]
      exact key S' a' c m
    rw [if_neg c18]
    by_cases c19 : y = nI 19
    · rw [if_pos c19]
      obtain ⟨S', a', e, c, m⟩ := ls_sheet hN xs hL hi hC hM kk
      dsimp only at e
      rw [e]
      exact key S' a' c m
    rw [if_neg c19]
    by_cases c20 : y = nI 20
    · rw [if_pos c20]
      obtain ⟨S', a', e, c, m⟩ := ls_lose hN xs hL hi hC hM kk
      dsimp only at e
      rw [e]
      exact key S' a' c m
    rw [if_neg c20]
    by_cases c21 : y = nI 21
    · rw [if_pos c21]
      obtain ⟨S', a', e, c, m⟩ := ls_put hN xs hL hi hC hM kk
      dsimp only at e
      rw [e]
      exact key S' a' c m
    rw [if_neg c21]
    by_cases c22 : y = nI 22
    · rw [if_pos c22]
      obtain ⟨S', a', e, c, m⟩ := ls_cell hN xs hL hi hC hM kk
      dsimp only at e
      rw [e]
      exact key S' a' c m
    rw [if_neg c22]
    by_cases c23 : y = nI 23
    · rw [if_pos c23]
      obtain ⟨S', a', e, c, m⟩ := ls_copy hN xs hL hi hC hM kk
      dsimp only at e
      rw [e]
      exact key S' a' c m
    rw [if_neg c23]
    by_cases c24 : y = nI 24
    · rw [if_pos c24]
      obtain ⟨S', a', e, c, m⟩ := ls_tell hN xs hL hi hC hM kk
      dsimp only at e
      rw [e]
      exact key S' a' c m
    rw [if_neg c24]
    by_cases c25 : y = nI 25
    · rw [if_pos c25]
      obtain ⟨S', a', e, c, m⟩ := ls_click hN xs hL hi hC hM kk
      dsimp only at e
      rw [e]
      exact key S' a' c m
    rw [if_neg c25]
    by_cases c26 : y = nI 26
    · rw [if_pos c26]
      obtain ⟨S', a', e, c, m⟩ := ls_as hN xs hL hi hC hM kk
      dsimp only at e
      rw [e]
      exact key S' a' c m
    rw [if_neg c26]
    by_cases c27 : y = nI 27
    · rw [if_pos c27]
      obtain ⟨S', a', e, c, m⟩ := ls_trace hN xs hL hi hC hM kk
      dsimp only at e
      rw [e]
      exact key S' a' c m
    rw [if_neg c27]
    by_cases c28 : y = nI 28
    · rw [if_pos c28]
      obtain ⟨S', a', e, c, m⟩ := ls_fault hN xs hL hi hC hM kk
      dsimp only at e
      rw [e]
      exact key S' a' c m
    rw [if_neg c28]
    by_cases c29 : y = nI 29
    · rw [if_pos c29]
      obtain ⟨S', a', e, c, m⟩ := ls_many hN xs hL hi hC hM kk
      dsimp only at e
      rw [e]
      exact key S' a' c m
    rw [if_neg c29]
    rw [bnd_e, n_add]
    exact key S a hC hM
def a_0 : Ab := ([], (0, 0, 0), 0, 0, 0, [], fun _ => none)
theorem a0_ok : okA a_0 := ⟨⟨Nat.zero_le _, fun i m hm => (by cases hm)⟩, e_ok, ⟨Nat.zero_le _, fun q hq => absurd hq List.not_mem_nil⟩, fun j x hx => (by cases hx)⟩
theorem s0_C : RC S_0 a_0 := by
  refine ⟨a0_ok, ⟨a0_ok.1, ⟨?_, fun i m hm => (by cases hm)⟩, fun i x _ _ => Or.inl ?_⟩, ?_, ?_, ?_, ?_, ⟨?_, fun r q hq => (by cases hq)⟩, fun j hj => ⟨fun _ => ?_, fun x hx => (by cases hx)⟩, ?_⟩
  · rw [s0_z (by decide) (by decide)]; rfl
  · rw [s0_z (by decide) (by decide)]
  · rw [s0_z (by decide) (by decide)]; rfl
  · rw [s0_z (by decide) (by decide)]; rfl
  · rw [s0_z (by decide) (by decide)]; rfl
  · rw [s0_z (by decide) (by decide)]; rfl
  · rw [s0_z (by decide) (by decide)]; rfl
  · rw [s0_s (by omega) (by omega)]; rfl
  · rw [s0_z (by decide) (by decide)]; decide
theorem s0_M : RM S_0 a_0 := by
  refine ⟨a0_ok, ⟨?_, fun i m hm => (by cases hm)⟩, ?_, ?_, ?_, ?_, ⟨?_, fun r q hq => (by cases hq)⟩, fun j hj => ⟨fun _ => ?_, fun x hx => (by cases hx)⟩, ⟨Or.inl ?_, Or.inl ?_⟩⟩
  · rw [s0_z (by decide) (by decide)]; rfl
  · rw [s0_z (by decide) (by decide)]; rfl
  · rw [s0_z (by decide) (by decide)]; rfl
  · rw [s0_z (by decide) (by decide)]; rfl
  · rw [s0_z (by decide) (by decide)]; rfl
  · rw [s0_z (by decide) (by decide)]; rfl
  · rcases (show j = 0 ∨ j = 1 ∨ j = 2 ∨ j = 3 by omega) with rfl | rfl | rfl | rfl <;> rfl
  · rw [s0_z (by decide) (by decide)]; rfl
  · rw [s0_z (by decide) (by decide)]; rfl
theorem pure_law (xs : Nat → Int32) {L : Nat} (hL : L ≤ 3072) : ∃ N S1, f_L_law_16 N xs L S_0 = some ((1 : Int32), S1) := by
  obtain ⟨N, hN⟩ : ∃ N, 23300 ≤ N := ⟨23300, Nat.le_refl _⟩
  obtain ⟨n, rfl⟩ : ∃ n, N = n + 1 := ⟨N - 1, by omega⟩
  obtain ⟨S1, h⟩ := law_go hN xs hL n 0 S_0 a_0 (by omega) (by omega) s0_C s0_M
  exact ⟨n + 1, S1, by rw [f_L_law_16, bnd_e]; exact h⟩
